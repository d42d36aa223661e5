/-! all walks of a clue, tried one after the other -/
theorem dq_max {x y : Nat} (hx : x < 1000) (hy : y < 1000) : (if (0 : Int32) < (Int32.ofNat x - Int32.ofNat y) then (Int32.ofNat x - Int32.ofNat y) else (0 : Int32)) = Int32.ofNat (x - y) := by
  rw [dq_subI]
  have h0 : (0 : Int32) < Int32.ofInt ((x : Int) - (y : Int)) ↔ 0 < (x : Int) - (y : Int) := by
    rw [Int32.lt_iff_toInt_lt, pu_int (by omega) (by omega), Int32.toInt_zero]
  by_cases h : y < x
  · rw [if_pos (h0.mpr (by omega))]
    exact dq_oI (by omega)
  · rw [if_neg (fun z => h (by have := h0.mp z; omega)), show x - y = 0 by omega]
    rfl
section DQT
variable {a : Nat → Int32} {w h nb nc q l c b n : Nat} {Y Y0 : dw_S} {th : Nat} {ι : Nat → Nat}
/-- where k further legs from the leg l on lead from c -/
def dq_R (a : Nat → Int32) (w h nb q : Nat) : Nat → Nat → Nat → Nat → Prop
  | 0, _, c, d => c = d
  | k + 1, l, c, d => ∃ e, e < w * h ∧ pu_E a w h nb q l c e ∧ dq_R a w h nb q k (l + 1) e d
theorem dq_R_S {k d : Nat} : dq_R a w h nb q (k + 1) l c d ↔ ∃ e, e < w * h ∧ pu_E a w h nb q l c e ∧ dq_R a w h nb q k (l + 1) e d := Iff.rfl
theorem dq_R_Fw : ∀ (k l d : Nat), (∃ c, c < w * h ∧ pu_Fw a w h nb q l c ∧ dq_R a w h nb q k l c d) ↔ (d < w * h ∧ pu_Fw a w h nb q (l + k) d)
  | 0, l, d => by
    constructor
    · rintro ⟨c, h1, h2, h3⟩
      have h3 : c = d := h3
      subst h3
      exact ⟨h1, h2⟩
    · rintro ⟨h1, h2⟩
      exact ⟨d, h1, h2, rfl⟩
  | k + 1, l, d => by
    have ih := dq_R_Fw k (l + 1) d
    rw [show l + (k + 1) = l + 1 + k by omega, ← ih]
    constructor
    · rintro ⟨c, h1, h2, e, h3, h4, h5⟩
      exact ⟨e, h3, ⟨c, h1, h2, h4⟩, h5⟩
    · rintro ⟨e, h3, ⟨c, h1, h2, h4⟩, h5⟩
      exact ⟨c, h1, h2, e, h3, h4, h5⟩
/-- the cells found so far, kept in fo -/
def dq_fd (Y : dw_S) (fo : Nat) (d : Nat) : Bool := (dw_r Y fo d).isSome
/-- the island while its walks are tried -/
def dq_W (Y0 : dw_S) (th : Nat) (ι : Nat → Nat) (m fo : Nat) (Y : dw_S) : Prop := dq_use th ι Y0 Y ∧ dw_r Y th 11 = some fo ∧ dq_A1 Y fo 26 m ∧ dw_n Y0 ≤ fo ∧ th < dw_n Y0
theorem dq_W_now {m fo i : Nat} {v : Int32} (W : dq_W Y0 th ι m fo Y) : dq_W Y0 th ι m fo (dw_pi Y (ι 5) i v) := ⟨dq_fr_pi W.1 (fun _ => rfl), W.2.1, W.2.2.1, W.2.2.2⟩
theorem dq_W_set {m fo d x : Nat} (W : dq_W Y0 th ι m fo Y) : dq_W Y0 th ι m fo (dw_pr Y fo d (some x)) := by
  obtain ⟨W1, W2, W3, W4, W5⟩ := W
  refine ⟨dq_fr_pr W1 (fun z => absurd z (by omega)), ?_, W3, W4, W5⟩
  rw [dq_r_pr_n (fun e => absurd e (by omega))]
  exact W2
theorem dq_W_nw {m fo x kd len : Nat} {f : Nat → Int32} {g : Nat → Option Nat} (W : dq_W Y0 th ι m fo Y) (hx : dw_n Y ≤ x) : dq_W Y0 th ι m fo (dw_nw Y x kd len f g) := by
  obtain ⟨W1, W2, W3, W4, W5⟩ := W
  have h1 := W1.2.1
  refine ⟨dq_fr_nw W1 hx, ?_, dq_A1_fr (Si := fun _ _ => False) (Sr := fun _ _ => False) (dq_fr_nw dq_fr_refl hx) W3, W4, W5⟩
  rw [dq_r_nw_n (by omega)]
  exact W2
/-- what a try comes to -/
def dq_TP (a : Nat → Int32) (w h nb q k l c : Nat) (Y0 : dw_S) (th : Nat) (ι : Nat → Nat) (fo : Nat) (Y : dw_S) (r : Nat × dw_S) : Prop := dq_W Y0 th ι (w * h) fo r.2 ∧ r.1 + pu_cnt (dq_fd Y fo) (w * h) ≤ pu_cnt (dq_fd r.2 fo) (w * h) ∧ ∀ d, d < w * h → (dq_fd r.2 fo d = true ↔ dq_fd Y fo d = true ∨ dq_R a w h nb q k l c d)
set_option maxHeartbeats 1000000 in
theorem dq_tries (H : pu_WF a w h nb nc) (S : dq_sm a w h nc) (I0 : dq_I Y0 th ι a w h nb nc) (hq : q < nc) (hn : 200 < n) {fo : Nat} : ∀ (k f l c m : Nat) (Y : dw_S) (Q : Nat × dw_S → Prop), k ≤ f → l + k ≤ pu_nl a q → c < w * h → dq_W Y0 th ι (w * h) fo Y → w * h ≤ m + pu_cnt (dq_fd Y fo) (w * h) → (∀ r, dq_TP a w h nb q k l c Y0 th ι fo Y r → Q r) → dw_P_X13_tries (f + 1) n m th (ι (20 + q)) (Int32.ofNat l) (Int32.ofNat c) (Int32.ofNat (l + k)) Y Q := by
  have hm := H.1
  have hle := pu_wfm_le hm
  have S3 := S.2.2 q hq
  intro k
  induction k with
  | zero =>
    intro f l c m Y Q hf hlk hc W hcm hQ
    obtain ⟨W1, W2, W3, W4, W5⟩ := id W
    obtain ⟨Is, -, ⟨-, -, -, -, -, r5⟩, -, -, -, ⟨N1, -⟩⟩ := dq_I_use W1 I0
    have hl := S3.2.1
    dsimp only [dw_P_X13_tries, pw_lt]
    refine dq_iff (fun z => z rfl) (dq_ck Is (dq_nn W2 (dq_ck (dq_A1_ok W3 hc (by omega)) ?_)))
    rw [pu_n (by omega)]
    refine dq_jn (fun v => dq_TP a w h nb q 0 l c Y0 th ι fo Y (v.2.1, v.1) ∧ v.2.1 ≤ m ∧ v.2.2 ≤ dw_sl (f + 1)) (fun v hv => dq_ck hv.2 (hQ _ hv.1)) (fun j hj => dq_mt (fun e => ?_) (fun x e => hj _ ⟨⟨W, ?_, fun d hd => ?_⟩, Nat.zero_le _, Nat.zero_le _⟩))
    · have hc1 : dq_fd Y fo c = false := by unfold dq_fd; rw [e]; rfl
      have key := pu_cnt_one (p := dq_fd Y fo) (q := fun d => if d = c then true else dq_fd Y fo d) (d := c) hc1 (if_pos rfl) (fun i hi => if_neg hi) (w * h)
      rw [if_pos hc] at key
      have hb := pu_cnt_le (fun d => if d = c then true else dq_fd Y fo d) (w * h)
      refine dq_ck Is (dq_nn W2 (dq_ck Is (dq_nn r5 (dq_ck ⟨⟨N1.1, fun i _ => rfl⟩, by omega, ?_⟩ (fun x hx => ?_)))))
      · rw [N1.2]
        show 0 + 9 ≤ 9 + 5 * dw_sl f
        omega
      · have W' : dq_W Y0 th ι (w * h) fo (dw_nw Y x 20 (dw_l Y (ι 5)) (dw_i Y (ι 5)) fun _ => none) := dq_W_nw W hx
        have h4 : 442 ≤ dw_n Y := by have := Is.1; have := Is.2.1; omega
        refine dq_ck (dq_is_new h4 hx) (dq_ck ⟨W'.2.2.1.1, (dq_A1_ok W'.2.2.1 hc (by omega)).2, dq_is_new h4 hx⟩ (hj _ ⟨⟨dq_W_set W', ?_, fun d hd => ?_⟩, by show 1 ≤ m; omega, ?_⟩))
        · have e2 : ∀ d, dq_fd (dw_pr (dw_nw Y x 20 (dw_l Y (ι 5)) (dw_i Y (ι 5)) fun _ => none) fo c (some x)) fo d = if d = c then true else dq_fd Y fo d := by
            intro d
            unfold dq_fd
            rw [dq_r_pr]
            by_cases hd : d = c
            · rw [if_pos ⟨rfl, hd⟩, if_pos hd]; rfl
            · rw [if_neg (fun z => hd z.2), if_neg hd, dq_r_nw_n (by have := W3.1.1; omega)]
          show 1 + pu_cnt (dq_fd Y fo) (w * h) ≤ _
          rw [pu_cnt_cong (w * h) (fun d _ => e2 d)]
          omega
        · have e2 : dq_fd (dw_pr (dw_nw Y x 20 (dw_l Y (ι 5)) (dw_i Y (ι 5)) fun _ => none) fo c (some x)) fo d = if d = c then true else dq_fd Y fo d := by
            unfold dq_fd
            rw [dq_r_pr]
            by_cases hd : d = c
            · rw [if_pos ⟨rfl, hd⟩, if_pos hd]; rfl
            · rw [if_neg (fun z => hd z.2), if_neg hd, dq_r_nw_n (by have := W3.1.1; omega)]
          show dq_fd (dw_pr (dw_nw Y x 20 (dw_l Y (ι 5)) (dw_i Y (ι 5)) fun _ => none) fo c (some x)) fo d = true ↔ _
          rw [e2]
          by_cases hd : d = c
          · rw [if_pos hd]; exact ⟨fun _ => Or.inr hd.symm, fun _ => rfl⟩
          · rw [if_neg hd]; exact ⟨Or.inl, fun z => z.elim id (fun z => absurd z.symm hd)⟩
        · rw [N1.2]
          show 0 + 9 ≤ 9 + 5 * dw_sl f
          omega
    · show 0 + pu_cnt (dq_fd Y fo) (w * h) ≤ pu_cnt (dq_fd Y fo) (w * h)
      omega
    · refine ⟨Or.inl, fun z => z.elim id (fun z => ?_)⟩
      have z : c = d := z
      subst z
      show (dw_r Y fo c).isSome = true
      rw [e]; rfl
  | succ k ih =>
    intro f l c m Y Q hf hlk hc W hcm hQ
    cases f with
    | zero => omega
    | succ f =>
    obtain ⟨W1, W2, W3, W4, W5⟩ := id W
    obtain ⟨Is, -, -, -, -, ⟨-, C2⟩, -⟩ := dq_I_use W1 I0
    obtain ⟨⟨-, d2, -, -, d5⟩, -, d8, d9⟩ := C2 q hq
    have hl : l < pu_nl a q := by omega
    have hl3 := S3.2.1
    have WL := (H.2.2.1.2.2 q hq).2.2.2.2 l hl
    have hfm := pu_few_lt WL
    obtain ⟨e0, e1, e2⟩ := d9 l hl
    obtain ⟨hk, -, w0, -⟩ := id WL
    have g0 := e2 0 (by omega)
    have g1 := e2 1 (by omega)
    have g2 := e2 2 (by omega)
    rw [Nat.add_zero, hk.1] at g0
    change dw_i Y (ι (50 + 8 * q + l)) 0 = Int32.ofNat (pu_kind a q l) at g0
    have hkl : pu_kind a q l < 3 := hk.2
    have hne0 : (¬ Int32.ofNat (pu_kind a q l) = 0) ↔ ¬ pu_kind a q l = 0 := not_congr (pu_eq (b := 0) (by omega) (by omega))
    have hne1 : (¬ Int32.ofNat (pu_kind a q l) = 1) ↔ ¬ pu_kind a q l = 1 := not_congr (pu_eq (b := 1) (by omega) (by omega))
    have hkind0 : pu_kind a q l = 0 → pu_few a q l = pu_many a q l - pu_give a q l ∧ pu_most a q l = pu_many a q l + pu_give a q l ∧ pu_give a q l ≤ 2 ∧ pu_many a q l < 31 ∧ dw_i Y (ι (50 + 8 * q + l)) 1 = Int32.ofNat (pu_many a q l) ∧ dw_i Y (ι (50 + 8 * q + l)) 2 = Int32.ofNat (pu_give a q l) := fun k0 => by
      obtain ⟨v1, v2⟩ := w0 k0
      refine ⟨by unfold pu_few; rw [if_pos k0], by unfold pu_most; rw [if_pos k0], S3.2.2 l hl k0, v1.2, g1.trans v1.1, g2.trans v2.1⟩
    have hcn := pu_cnt_le
    show dw_P_X13_tries (f + 1 + 1) n m th (ι (20 + q)) (Int32.ofNat l) (Int32.ofNat c) (Int32.ofNat (l + (k + 1))) Y Q
    rw [show l + (k + 1) = l + 1 + k by omega]
    unfold dw_P_X13_tries
    dsimp only [pw_lt]
    have hsl : dw_sl (f + 1 + 1) = 9 + 5 * dw_sl (f + 1) := rfl
    rw [hsl]
    generalize hsg : dw_sl (f + 1) = sl
    refine dq_ift (fun z => by rw [pu_eq (by omega) (by omega)] at z; omega) (dq_ck d2 (dq_nn d5 (dq_ck (dq_A1_ok d8 hl (by omega)) (dq_nn (by rw [pu_n (by omega)]; exact e0) (dq_ck e1 ?_)))))
    rw [g0]
    refine dq_jn (fun v => v = Int32.ofNat (pu_most a q l)) (fun v hv => ?_) (fun j hj => dq_if (fun z0 => dq_ck e1 (dq_if (fun z1 => hj _ ?_) (fun z1 => hj _ ?_))) (fun z0 => dq_ck e1 (dq_ck e1 (hj _ ?_))))
    rotate_left
    · unfold pu_most; rw [if_neg (hne0.mp z0), if_neg (hne1.mp z1)]; rfl
    · unfold pu_most; rw [if_neg (hne0.mp z0), if_pos (Classical.not_not.mp (fun y => z1 (hne1.mpr y)))]; rfl
    · obtain ⟨k1, k2, k3, k4, k5, k6⟩ := hkind0 (Classical.not_not.mp (fun y => z0 (hne0.mpr y)))
      rw [k5, k6, k2, pu_add]
    subst hv
    refine dq_ck e1 (dq_jn (fun v => v = Int32.ofNat (pu_few a q l)) (fun v hv => ?_) (fun j hj => dq_if (fun z0 => hj _ ?_) (fun z0 => dq_ck e1 (dq_ck e1 (hj _ ?_)))))
    rotate_left
    · unfold pu_few; rw [if_neg (hne0.mp z0)]; rfl
    · obtain ⟨k1, k2, k3, k4, k5, k6⟩ := hkind0 (Classical.not_not.mp (fun y => z0 (hne0.mpr y)))
      rw [k5, k6, k1, dq_max (by omega) (by omega)]
    subst hv
    have hfmm : pu_few a q l ≤ pu_most a q l := by
      by_cases k0 : pu_kind a q l = 0
      · obtain ⟨k1, k2, -⟩ := hkind0 k0; omega
      · unfold pu_few; rw [if_neg k0]; exact Nat.zero_le _
    have hspan : pu_kind a q l = 0 → pu_most a q l + 1 ≤ pu_few a q l + 5 := fun k0 => by
      obtain ⟨k1, k2, k3, -⟩ := hkind0 k0; omega
    -- the loop over paces
    refine dq_for (pu_most a q l + 1 - pu_few a q l) (fun i v => v.1 = Int32.ofNat (pu_few a q l + i) ∧ dq_W Y0 th ι (w * h) fo v.2.1 ∧ v.2.2.1 + pu_cnt (dq_fd Y fo) (w * h) ≤ pu_cnt (dq_fd v.2.1 fo) (w * h) ∧ v.2.2.2 ≤ i * sl ∧ (pu_kind a q l ≠ 0 → v.2.2.2 = 0 ∧ ∀ i', pu_few a q l ≤ i' → i' < pu_few a q l + i → dq_bh a w h nb q l c i' = none) ∧ ∀ d, d < w * h → (dq_fd v.2.1 fo d = true ↔ dq_fd Y fo d = true ∨ ∃ i', pu_few a q l ≤ i' ∧ i' < pu_few a q l + i ∧ ∃ e, dq_bh a w h nb q l c i' = some e ∧ dq_R a w h nb q k (l + 1) e d)) (fun kk i v hi hv hkk => ?_) (fun kk v hv => ?_) (by omega) ⟨rfl, W, by show 0 + pu_cnt (dq_fd Y fo) (w * h) ≤ pu_cnt (dq_fd Y fo) (w * h); omega, Nat.zero_le _, fun _ => ⟨rfl, fun i' y1 y2 => by omega⟩, fun d hd => ⟨Or.inl, fun z => z.elim id (fun ⟨i', y1, y2, _⟩ => by omega)⟩⟩
    · obtain ⟨v1, Yv, cc, ss⟩ := v
      obtain ⟨hv1, Wv, hcc, hss, huq, hrel⟩ := hv
      dsimp only [] at hv1 Wv hcc hss huq hrel
      dsimp only []
      subst hv1
      have Iv := dq_I_use Wv.1 I0
      obtain ⟨Isv, -, ⟨-, -, -, -, -, r5v⟩, -, -, ⟨-, C2v⟩, ⟨N1v, -⟩⟩ := id Iv
      obtain ⟨-, e1v, e2v⟩ := (C2v q hq).2.2.2 l hl
      have g0v := e2v 0 (by omega)
      rw [Nat.add_zero, hk.1] at g0v
      change dw_i Yv (ι (50 + 8 * q + l)) 0 = Int32.ofNat (pu_kind a q l) at g0v
      have hcnv := hcn (dq_fd Yv fo) (w * h)
      have hsb : ss ≤ 5 * sl ∧ (pu_kind a q l = 0 → ss + sl ≤ 5 * sl) := by
        by_cases k0 : pu_kind a q l = 0
        · have h5 := hspan k0
          have h6 : i * sl ≤ 4 * sl := Nat.mul_le_mul_right _ (by omega)
          exact ⟨by omega, fun _ => by omega⟩
        · exact ⟨by have := (huq k0).1; omega, fun z => absurd z k0⟩
      have hnext : Int32.ofNat (pu_few a q l + i) + (1 : Int32) = Int32.ofNat (pu_few a q l + (i + 1)) := pu_add _ 1
      have hi1 : i * sl ≤ (i + 1) * sl := Nat.mul_le_mul_right _ (by omega)
      refine dq_iff (by rw [pu_ltn (by omega) (by omega)]; omega) (dq_ck ⟨Isv, by omega, by omega⟩ (dq_behind Iv H hq hl hc (by omega) (by omega) hn ?_))
      cases hb : dq_bh a w h nb q l c (pu_few a q l + i) with
      | none =>
        refine dq_jn (fun v => v = (Yv, cc, ss)) (fun v hv => ?_) (fun j hj => dq_iff (by decide) (hj _ rfl))
        subst hv
        refine hkk _ ⟨hnext, Wv, hcc, by dsimp only []; omega, fun k0 => ⟨(huq k0).1, fun i' y1 y2 => ?_⟩, fun d hd => ?_⟩
        · by_cases e : i' = pu_few a q l + i
          · rw [e]; exact hb
          · exact (huq k0).2 i' y1 (by omega)
        · rw [hrel d hd]
          constructor
          · rintro (z | ⟨i', y1, y2, y3⟩)
            · exact Or.inl z
            · exact Or.inr ⟨i', y1, by omega, y3⟩
          · rintro (z | ⟨i', y1, y2, e, y3, y4⟩)
            · exact Or.inl z
            · refine Or.inr ⟨i', y1, ?_, e, y3, y4⟩
              by_cases e : i' = pu_few a q l + i
              · rw [e, hb] at y3; cases y3
              · omega
      | some e =>
        have he := dq_bh_lt hm hc hb
        have hup : ∀ r : Nat × dw_S, dq_TP a w h nb q k (l + 1) e Y0 th ι fo (dw_pi Yv (ι 5) (Int32.toNatClampNeg (Int32.ofNat l + (1 : Int32))) (Int32.ofNat (pu_few a q l + i))) r → dq_W Y0 th ι (w * h) fo r.2 ∧ (cc + r.1) + pu_cnt (dq_fd Y fo) (w * h) ≤ pu_cnt (dq_fd r.2 fo) (w * h) ∧ ∀ d, d < w * h → (dq_fd r.2 fo d = true ↔ dq_fd Y fo d = true ∨ ∃ i', pu_few a q l ≤ i' ∧ i' < pu_few a q l + (i + 1) ∧ ∃ e, dq_bh a w h nb q l c i' = some e ∧ dq_R a w h nb q k (l + 1) e d) := by
          rintro r ⟨p1, p2, p3⟩
          have p2 : r.1 + pu_cnt (dq_fd Yv fo) (w * h) ≤ pu_cnt (dq_fd r.2 fo) (w * h) := p2
          refine ⟨p1, by omega, fun d hd => ?_⟩
          rw [p3 d hd]
          have hrd := hrel d hd
          constructor
          · rintro (z | z)
            · rcases hrd.mp z with z | ⟨i', y1, y2, y3⟩
              · exact Or.inl z
              · exact Or.inr ⟨i', y1, by omega, y3⟩
            · exact Or.inr ⟨_, Nat.le_add_right _ _, by omega, e, hb, z⟩
          · rintro (z | ⟨i', y1, y2, e', y3, y4⟩)
            · exact Or.inl (hrd.mpr (Or.inl z))
            · by_cases ee : i' = pu_few a q l + i
              · rw [ee, hb] at y3
                cases y3
                exact Or.inr y4
              · exact Or.inl (hrd.mpr (Or.inr ⟨i', y1, by omega, e', y3, y4⟩))
        have hl1 : Int32.ofNat l + (1 : Int32) = Int32.ofNat (l + 1) := pu_add l 1
        refine dq_jn (fun v => v.2.2 = ss + sl ∧ pu_kind a q l = 0 ∧ dq_W Y0 th ι (w * h) fo v.1 ∧ v.2.1 + pu_cnt (dq_fd Y fo) (w * h) ≤ pu_cnt (dq_fd v.1 fo) (w * h) ∧ ∀ d, d < w * h → (dq_fd v.1 fo d = true ↔ dq_fd Y fo d = true ∨ ∃ i', pu_few a q l ≤ i' ∧ i' < pu_few a q l + (i + 1) ∧ ∃ e, dq_bh a w h nb q l c i' = some e ∧ dq_R a w h nb q k (l + 1) e d)) (fun v hv => ?_) (fun j hj => ?_)
        · obtain ⟨z1, z2, z3, z4, z5⟩ := hv
          refine hkk _ ⟨hnext, z3, z4, ?_, fun k0 => absurd z2 k0, z5⟩
          dsimp only []
          rw [z1, Nat.succ_mul]
          omega
        · refine dq_ift ((dq_eR_ge (fun x ee => by cases ee; omega)).mpr (fun ee => by cases ee)) (dq_ck Isv (dq_nn r5v (dq_ck (by rw [hl1]; exact dq_A1_ok N1v (by omega) (by decide)) (dq_ck ⟨Isv, by omega, ?_⟩ ?_))))
          · by_cases k0 : pu_kind a q l = 0
            · have := hsb.2 k0; omega
            · have := (huq k0).1; omega
          · have IH := ih f (l + 1) e (m - cc) (dw_pi Yv (ι 5) (Int32.toNatClampNeg (Int32.ofNat l + (1 : Int32))) (Int32.ofNat (pu_few a q l + i)))
            rw [← hl1] at IH
            refine IH _ (by omega) (by omega) he (dq_W_now Wv) (by show w * h ≤ (m - cc) + pu_cnt (dq_fd Yv fo) (w * h); omega) (fun r hr => ?_)
            obtain ⟨u1, u2, u3⟩ := hup r hr
            have Ir := dq_I_use u1.1 I0
            obtain ⟨-, -, -, -, -, ⟨-, C2r⟩, -⟩ := id Ir
            obtain ⟨-, e1r, e2r⟩ := (C2r q hq).2.2.2 l hl
            have g0r := e2r 0 (by omega)
            rw [Nat.add_zero, hk.1] at g0r
            change dw_i r.2 (ι (50 + 8 * q + l)) 0 = Int32.ofNat (pu_kind a q l) at g0r
            rw [g0r]
            have hcnr := hcn (dq_fd r.2 fo) (w * h)
            refine dq_ck e1r (dq_if (fun z => hj _ ⟨rfl, ?_, u1, u2, u3⟩) (fun z => dq_ck ⟨by omega, ?_⟩ (hQ _ ⟨u1, u2, fun d hd => ?_⟩)))
            · have := (pu_le (b := 0) (by omega) (by omega)).mp z
              omega
            · by_cases k0 : pu_kind a q l = 0
              · have := hsb.2 k0; omega
              · have := (huq k0).1; omega
            · have k0 : ¬ pu_kind a q l = 0 := fun k0 => z ((pu_le (b := 0) (by omega) (by omega)).mpr (by omega))
              rw [u3 d hd, dq_R_S]
              constructor
              · rintro (z | ⟨i', y1, y2, e', y3, y4⟩)
                · exact Or.inl z
                · exact Or.inr ⟨e', dq_bh_lt hm hc y3, dq_bh_E.mp ⟨i', y1, by omega, y3⟩, y4⟩
              · rintro (z | ⟨e', y1, y2, y3⟩)
                · exact Or.inl z
                · obtain ⟨i', x1, x2, x3⟩ := dq_bh_E.mpr y2
                  have := dq_bh_uniq k0 x3 hb
                  exact Or.inr ⟨i', x1, by omega, e', x3, y3⟩
    · obtain ⟨v1, Yv, cc, ss⟩ := v
      obtain ⟨hv1, Wv, hcc, hss, huq, hrel⟩ := hv
      dsimp only [] at hv1 Wv hcc hss huq hrel
      dsimp only []
      subst hv1
      have hcnv := hcn (dq_fd Yv fo) (w * h)
      refine dq_ift ((pu_ltn (by omega) (by omega)).mpr (by omega)) (dq_ck ⟨by omega, ?_⟩ (hQ _ ⟨Wv, hcc, fun d hd => ?_⟩))
      · by_cases k0 : pu_kind a q l = 0
        · have h5 := hspan k0
          have h6 : (pu_most a q l + 1 - pu_few a q l) * sl ≤ 5 * sl := Nat.mul_le_mul_right _ (by omega)
          omega
        · have := (huq k0).1; omega
      · show dq_fd Yv fo d = true ↔ _
        rw [hrel d hd, dq_R_S]
        constructor
        · rintro (z | ⟨i', y1, y2, e', y3, y4⟩)
          · exact Or.inl z
          · exact Or.inr ⟨e', dq_bh_lt hm hc y3, dq_bh_E.mp ⟨i', y1, by omega, y3⟩, y4⟩
        · rintro (z | ⟨e', y1, y2, y3⟩)
          · exact Or.inl z
          · obtain ⟨i', x1, x2, x3⟩ := dq_bh_E.mpr y2
            exact Or.inr ⟨i', x1, by omega, e', x3, y3⟩
end DQT
