/-! the reference: an area, water -/
section RAREA
variable {σ σ0 : tw_Sg} {B : Nat → Nat} {L p n w h : Nat} {E : Option (Int32 × Nat)} {A A' : Nat → Int32}
theorem pu_m1I {m : Nat} (h1 : 0 < m) (h2 : m ≤ 20) : (Int32.ofNat m - (1 : Int32)).toInt = ((m - 1 : Nat) : Int) := by
  rw [show Int32.ofNat m - (1 : Int32) = Int32.ofNat (m - 1) from pu_sub (b := 1) h1]
  exact pu_toInt (by omega)
theorem pu_num_le : pu_num B L p ≤ 100000000 := pu_nv_le _
theorem pu_srArea (H : pu_SR B L σ0 A E p σ) (W : pu_wfm A w h) (hn : 2000 < n) : pu_wp (tw_P_X12_readArea n σ) (fun t => pu_SR B L σ0 A (pu_eA B L w h E p) (pu_nk B L 4 p) t ∧ (pu_eA B L w h E p = none → t 442 14 = Int32.ofNat p ∧ t 442 15 = Int32.ofNat (pu_num B L p) ∧ t 442 16 = Int32.ofNat (pu_num B L (pu_nk B L 1 p)) ∧ t 442 17 = Int32.ofNat (pu_num B L (pu_nk B L 2 p)) ∧ t 442 18 = Int32.ofNat (pu_num B L (pu_nk B L 3 p)))) := by
  obtain ⟨a0, a1, w1, w2, h1, h2⟩ := W
  have hnum : ∀ k, (Int32.ofNat (pu_num B L k)).toInt = ((pu_num B L k : Nat) : Int) := fun k => pu_toInt (by have := pu_num_le (B := B) (L := L) (p := k); omega)
  unfold tw_P_X12_readArea
  rw [pu_l445]
  refine pu_ck (by decide) (pu_bd (pu_srN (lo' := (0 : Nat)) (hi' := (w - 1 : Nat)) H (fun z => ⟨rfl, by rw [show σ 445 (Int32.toNatClampNeg (0 : Int32)) = A 0 from pu_sr445 H z (by decide), a0]; exact pu_m1I w1 w2⟩) hn) (fun r1 hr => ?_))
  obtain ⟨v1, H1, fb1⟩ := hr
  refine pu_ltG (P := fun s => pu_SR B L σ0 A (pu_eN B L E (0 : Nat) (w - 1 : Nat) p) (pu_nx B L p) s ∧ (pu_eN B L E (0 : Nat) (w - 1 : Nat) p = none → s 442 15 = Int32.ofNat (pu_num B L p) ∧ s 442 12 = Int32.ofNat p)) ⟨pu_SR_442 H1 (by decide), fun z => ⟨pu_u442s.trans (v1 z).1, (pu_u442 (σ := r1.2) (i := 15) (j := 12) (x := r1.1) (by decide)).trans (v1 z).2⟩⟩ (fun s hs => ?_)
  obtain ⟨H2, g2⟩ := hs
  refine pu_ltG (P := fun t => pu_SR B L σ0 A (pu_eN B L E (0 : Nat) (w - 1 : Nat) p) (pu_nx B L p) t ∧ (pu_eN B L E (0 : Nat) (w - 1 : Nat) p = none → t 442 15 = Int32.ofNat (pu_num B L p) ∧ t 442 14 = Int32.ofNat p)) ⟨pu_SR_442 H2 (by decide), fun z => ⟨(pu_u442 (σ := s) (i := 14) (j := 15) (x := s 442 12) (by decide)).trans (g2 z).1, pu_u442s.trans (g2 z).2⟩⟩ (fun t ht => ?_)
  obtain ⟨H3, g3⟩ := ht
  refine pu_ck (by decide) (pu_bd (pu_srN (lo' := (0 : Nat)) (hi' := (h - 1 : Nat)) H3 (fun z => ⟨rfl, by rw [show t 445 (Int32.toNatClampNeg (1 : Int32)) = A 1 from pu_sr445 H3 z (by decide), a1]; exact pu_m1I h1 h2⟩) hn) (fun r4 hr => ?_))
  obtain ⟨v4, H4, fb4⟩ := hr
  refine pu_ltG (P := fun u => pu_SR B L σ0 A (pu_eN B L (pu_eN B L E (0 : Nat) (w - 1 : Nat) p) (0 : Nat) (h - 1 : Nat) (pu_nk B L 1 p)) (pu_nk B L 2 p) u ∧ (pu_eN B L (pu_eN B L E (0 : Nat) (w - 1 : Nat) p) (0 : Nat) (h - 1 : Nat) (pu_nk B L 1 p) = none → u 442 15 = Int32.ofNat (pu_num B L p) ∧ u 442 14 = Int32.ofNat p ∧ u 442 16 = Int32.ofNat (pu_num B L (pu_nk B L 1 p)))) ⟨pu_SR_442 H4 (by decide), fun z => ⟨?_, ?_, pu_u442s.trans (v4 z).1⟩⟩ (fun u hu => ?_)
  · exact (pu_u442 (σ := r4.2) (i := 16) (j := 15) (x := r4.1) (by decide)).trans ((fb4.2 15 (by decide) (by decide) (by decide) (by decide)).trans (g3 (pu_fs0.mp z).1).1)
  · exact (pu_u442 (σ := r4.2) (i := 16) (j := 14) (x := r4.1) (by decide)).trans ((fb4.2 14 (by decide) (by decide) (by decide) (by decide)).trans (g3 (pu_fs0.mp z).1).2)
  obtain ⟨H5, g5⟩ := hu
  refine pu_ck (by decide) (pu_bd (pu_srN (lo' := (pu_num B L p : Nat)) (hi' := (w - 1 : Nat)) H5 (fun z => ⟨by rw [(g5 z).1]; exact hnum p, by rw [show u 445 (Int32.toNatClampNeg (0 : Int32)) = A 0 from pu_sr445 H5 z (by decide), a0]; exact pu_m1I w1 w2⟩) hn) (fun r6 hr => ?_))
  obtain ⟨v6, H6, fb6⟩ := hr
  refine pu_ltG (P := fun x => pu_SR B L σ0 A (pu_eN B L (pu_eN B L (pu_eN B L E (0 : Nat) (w - 1 : Nat) p) (0 : Nat) (h - 1 : Nat) (pu_nk B L 1 p)) (pu_num B L p) (w - 1 : Nat) (pu_nk B L 2 p)) (pu_nk B L 3 p) x ∧ (pu_eN B L (pu_eN B L (pu_eN B L E (0 : Nat) (w - 1 : Nat) p) (0 : Nat) (h - 1 : Nat) (pu_nk B L 1 p)) (pu_num B L p) (w - 1 : Nat) (pu_nk B L 2 p) = none → x 442 15 = Int32.ofNat (pu_num B L p) ∧ x 442 14 = Int32.ofNat p ∧ x 442 16 = Int32.ofNat (pu_num B L (pu_nk B L 1 p)) ∧ x 442 17 = Int32.ofNat (pu_num B L (pu_nk B L 2 p)))) ⟨pu_SR_442 H6 (by decide), fun z => ⟨?_, ?_, ?_, pu_u442s.trans (v6 z).1⟩⟩ (fun x hx => ?_)
  · exact (pu_u442 (σ := r6.2) (i := 17) (j := 15) (x := r6.1) (by decide)).trans ((fb6.2 15 (by decide) (by decide) (by decide) (by decide)).trans (g5 (pu_fs0.mp z).1).1)
  · exact (pu_u442 (σ := r6.2) (i := 17) (j := 14) (x := r6.1) (by decide)).trans ((fb6.2 14 (by decide) (by decide) (by decide) (by decide)).trans (g5 (pu_fs0.mp z).1).2.1)
  · exact (pu_u442 (σ := r6.2) (i := 17) (j := 16) (x := r6.1) (by decide)).trans ((fb6.2 16 (by decide) (by decide) (by decide) (by decide)).trans (g5 (pu_fs0.mp z).1).2.2)
  obtain ⟨H7, g7⟩ := hx
  refine pu_ck (by decide) (pu_bd (pu_srN (lo' := (pu_num B L (pu_nk B L 1 p) : Nat)) (hi' := (h - 1 : Nat)) H7 (fun z => ⟨by rw [(g7 z).2.2.1]; exact hnum _, by rw [show x 445 (Int32.toNatClampNeg (1 : Int32)) = A 1 from pu_sr445 H7 z (by decide), a1]; exact pu_m1I h1 h2⟩) hn) (fun r8 hr => ?_))
  obtain ⟨v8, H8, fb8⟩ := hr
  refine pu_lt (pu_some ⟨pu_SR_442 H8 (by decide), fun z => ?_⟩)
  have y := g7 (pu_fs0.mp z).1
  have ff : ∀ i, i = 14 ∨ i = 15 ∨ i = 16 ∨ i = 17 → tw_up r8.2 442 18 r8.1 442 i = x 442 i := fun i hi => (pu_u442 (σ := r8.2) (i := 18) (j := i) (x := r8.1) (by omega)).trans (fb8.2 i (by omega) (by omega) (by omega) (by omega))
  exact ⟨(ff 14 (by decide)).trans y.2.1, (ff 15 (by decide)).trans y.1, (ff 16 (by decide)).trans y.2.2.1, (ff 17 (by decide)).trans y.2.2.2, pu_u442s.trans (v8 z).1⟩
theorem pu_rInA {x0 y0 x1 y1 : Nat} {o : Option Nat} (w1 : 0 < w) (w2 : w ≤ 20) (h2 : h ≤ 20) (hq : pu_sq w h x0 y0 x1 y1) (hw : σ 445 0 = Int32.ofNat w) (e5 : σ 442 15 = Int32.ofNat x0) (e6 : σ 442 16 = Int32.ofNat y0) (e7 : σ 442 17 = Int32.ofNat x1) (e8 : σ 442 18 = Int32.ofNat y1) (ho : ∀ c, o = some c → c < w * h) : tw_P_X12_isInArea (pu_eR o) σ = some (pu_b1 (pu_oA w x0 y0 x1 y1 o)) := by
  obtain ⟨q1, q2, q3, q4⟩ := hq
  have hwh := pu_wh w2 h2
  have hw0 : ¬ Int32.ofNat w = 0 := fun z => by have := (pu_eq (b := 0) (by omega) (by decide)).mp z; omega
  unfold tw_P_X12_isInArea
  rw [pu_l445, show Int32.toNatClampNeg (0 : Int32) = 0 from rfl, hw, e5, e6, e7, e8]
  dsimp only [tw_jn]
  rw [show tw_ok (0 : Int32) 1028 = true from by decide, decide_eq_false hw0]
  cases o with
  | none => rfl
  | some c =>
    have hc := ho c rfl
    have hm : c % w < 20 := by have := Nat.mod_lt c w1; omega
    have hd : c / w ≤ c := Nat.div_le_self c w
    have e1 : Int32.ofNat c - Int32.ofNat c / Int32.ofNat w * Int32.ofNat w = Int32.ofNat (c % w) := pu_rem (by omega) (by omega)
    have e2 : Int32.ofNat c / Int32.ofNat w = Int32.ofNat (c / w) := pu_div (by omega) (by omega)
    have e0 : pu_eR (some c) = Int32.ofNat c := rfl
    rw [e0, e1, e2]
    dsimp only [tw_lt]
    rw [if_neg (pu_nm1 (show c < 2147483648 by omega)), pu_in_eq, pu_in_eq, pu_toInt (by omega), pu_toInt (by omega), pu_toInt (by omega), pu_toInt (by omega), pu_toInt (by omega), pu_toInt (by omega)]
    show _ = some (pu_b1 (decide (x0 ≤ c % w ∧ c % w ≤ x1 ∧ y0 ≤ c / w ∧ c / w ≤ y1)))
    by_cases c1 : x0 ≤ c % w ∧ c % w ≤ x1
    · have c1' : ((x0 : Nat) : Int) ≤ ((c % w : Nat) : Int) ∧ ((c % w : Nat) : Int) ≤ (x1 : Nat) := by omega
      by_cases c2 : y0 ≤ c / w ∧ c / w ≤ y1
      · have c2' : ((y0 : Nat) : Int) ≤ ((c / w : Nat) : Int) ∧ ((c / w : Nat) : Int) ≤ (y1 : Nat) := by omega
        rw [if_pos c1', if_pos c2', decide_eq_true ⟨c1.1, c1.2, c2⟩]
        rfl
      · have c2' : ¬ (((y0 : Nat) : Int) ≤ ((c / w : Nat) : Int) ∧ ((c / w : Nat) : Int) ≤ (y1 : Nat)) := by omega
        rw [if_pos c1', if_neg c2', decide_eq_false (fun z => c2 z.2.2)]
        rfl
    · have c1' : ¬ (((x0 : Nat) : Int) ≤ ((c % w : Nat) : Int) ∧ ((c % w : Nat) : Int) ≤ (x1 : Nat)) := by omega
      rw [if_neg c1', decide_eq_false (fun z => c1 ⟨z.1, z.2.1⟩)]
      rfl
theorem pu_rFirst (w2 : w ≤ 20) (h2 : h ≤ 20) (hw : σ 445 0 = Int32.ofNat w) (hh : σ 445 1 = Int32.ofNat h) (hA : ∀ c, c < w * h → σ 445 (8 + c) = A (8 + c)) (h01 : ∀ c, c < 400 → A (8 + c) = 0 ∨ A (8 + c) = 1) (hn : 2000 < n) : pu_wp (tw_P_X12_firstLand n 445 σ) (fun r => ((∃ c, c < w * h ∧ pu_land A c = true) → r = Int32.ofNat (pu_fl A w h) ∧ r ≠ -1) ∧ ((¬ ∃ c, c < w * h ∧ pu_land A c = true) → r = -1)) := by
  have hwh := pu_wh w2 h2
  unfold tw_P_X12_firstLand
  rw [pu_l445, show Int32.toNatClampNeg (0 : Int32) = 0 from rfl, show Int32.toNatClampNeg (1 : Int32) = 1 from rfl, hw, hh, pu_mul]
  refine pu_lt ?_
  refine pu_lp (J := fun t => ∃ c, c ≤ w * h ∧ t = Int32.ofNat c ∧ ∀ d, d < c → pu_land A d = false) (m := fun t => 500 - t.toNatClampNeg) ?_ n _ (by show 500 - _ < n; omega) ⟨0, Nat.zero_le _, rfl, fun d hd => absurd hd (Nat.not_lt_zero _)⟩
  rintro k3 cc ⟨c, hc, e1, hd⟩ hk3
  subst e1
  refine pu_ck (by decide) (pu_ck (by decide) ?_)
  have hle : Int32.ofNat (w * h) ≤ Int32.ofNat c ↔ w * h ≤ c := pu_le (by omega) (by omega)
  refine pu_jn (R := fun _ => c < w * h → pu_land A c = true) (fun u hu => ?_) (fun g hg => ?_)
  · have hu : c < w * h → pu_land A c = true := hu
    refine pu_ck (by decide) (pu_ck (by decide) (pu_jn0 (pu_if (fun c1 => pu_some ⟨fun z => ?_, fun _ => rfl⟩) (fun c1 => pu_some ⟨fun _ => ⟨?_, pu_nm1 (by omega)⟩, fun z => ?_⟩)))) <;> rw [hle] at c1
    · obtain ⟨d, d1, d2⟩ := z
      rw [hd d (by omega)] at d2
      cases d2
    · have := pu_g_of (hu (by omega)) (w * h) (by omega)
      rw [pu_sum_0 hd] at this
      unfold pu_fl
      rw [this]
    · exact absurd ⟨c, by omega, hu (by omega)⟩ z
  refine pu_if (fun c1 => ?_) (fun c1 => ?_) <;> rw [hle] at c1
  · exact hg () (fun z => absurd z (by omega))
  rw [show (8 : Int32) + Int32.ofNat c = Int32.ofNat (8 + c) from pu_add 8 c, pu_n (show 8 + c < 2147483648 by omega), hA c (by omega)]
  refine pu_ck (pu_ok (by omega) (by omega)) (pu_if (fun c2 => ?_) (fun c2 => ?_))
  · refine hg () (fun _ => ?_)
    exact decide_eq_true ((h01 c (by omega)).resolve_right c2)
  · have c2 := Classical.not_not.mp c2
    refine pu_lt ?_
    have em : Int32.ofNat c + (1 : Int32) = Int32.ofNat (c + 1) := pu_add c 1
    rw [em]
    refine hk3 _ ⟨c + 1, by omega, rfl, fun d hd' => ?_⟩ ?_
    · by_cases e : d = c
      · subst e
        unfold pu_land
        rw [c2]
        rfl
      · exact hd d (by omega)
    · rw [pu_n (by omega), pu_n (by omega)]
      omega
theorem pu_b1or {a b : Bool} : pu_b1 a ||| pu_b1 b = pu_b1 (a || b) := by cases a <;> cases b <;> decide
/-- water's end on either side -/
theorem pu_fs_comm {E : Option (Int32 × Nat)} {s l : Prop} {c1 c2 : Int32} {o : Nat} : pu_fs (pu_fs E (s → l) c2 o) s c1 o = pu_fs (pu_fs E s c1 o) l c2 o := by
  cases E with
  | some e => rfl
  | none =>
    by_cases h1 : s
    · by_cases h2 : l
      · rw [pu_fs_y (fun _ => h2), pu_fs_y h1, pu_fs_y h2]
      · rw [pu_fs_n (fun z => h2 (z h1)), pu_fs_y h1, pu_fs_n h2]
        rfl
    · rw [pu_fs_y (fun z => absurd z h1), pu_fs_n h1]
      rfl
end RAREA
