/-! tour of the reference -/
theorem pu_min {σ : tw_Sg} {x y : Int32} : tw_P_X12_min x y σ = some (if y ≤ x then y else x) := by
  unfold tw_P_X12_min
  dsimp only [tw_jn]
  by_cases c : y ≤ x
  · rw [if_pos c, if_pos c]
  · rw [if_neg c, if_neg c]
theorem pu_max {σ : tw_Sg} {x y : Int32} : tw_P_X12_max x y σ = some (if x ≤ y then y else x) := by
  unfold tw_P_X12_max
  dsimp only [tw_jn]
  by_cases c : x ≤ y
  · rw [if_pos c, if_pos c]
  · rw [if_neg c, if_neg c]
theorem pu_mC_R {p : Nat → Bool} {f : Nat → Int} {m : Nat} {x : Int32} (hp : p m = true) (hx : 1000000 ≤ x.toInt) (hr : -1000 ≤ f m ∧ f m < 1000000) (hv : ∀ v, pu_mo p f m = some v → -1000 ≤ v ∧ v < 1000000) : (if Int32.ofInt (f m) ≤ pu_mC x (pu_mo p f m) then Int32.ofInt (f m) else pu_mC x (pu_mo p f m)) = pu_mC x (pu_mo p f (m + 1)) := by
  rw [← pu_mC_S hp hx hr hv]
  by_cases c : Int32.ofInt (f m) < pu_mC x (pu_mo p f m)
  · rw [if_pos c, if_pos (Int32.le_of_lt c)]
  · rw [if_neg c]
    by_cases c2 : Int32.ofInt (f m) ≤ pu_mC x (pu_mo p f m)
    · rw [if_pos c2]
      exact Int32.le_antisymm c2 (Int32.not_lt.mp c)
    · rw [if_neg c2]
theorem pu_l511 : tw_ln 511 = 9 := by decide +kernel
theorem pu_l512 : tw_ln 512 = 9 := by decide +kernel
theorem pu_l513 : tw_ln 513 = 9 := by decide +kernel
theorem pu_l523 : tw_ln 523 = 512 := by decide +kernel
theorem pu_lB {i : Nat} (h : i < 9) : tw_ln (513 + 1 + 1 * i) = 9 := eq_of_beq (tw_rng (n := 9) (p := fun i => tw_ln (513 + 1 + 1 * i) == 9) (by decide +kernel) i h)
theorem pu_lT {s : Nat} (h : s < 512) : tw_ln (523 + 1 + 1 * s) = 9 := eq_of_beq (tw_rng (n := 512) (p := fun s => tw_ln (523 + 1 + 1 * s) == 9) (by decide +kernel) s h)
def pu_F14 (k : Nat) : Prop := 524 ≤ k ∧ k < 1036
theorem pu_rshort {σ : tw_Sg} {n K : Nat} {F : Nat → Int} {B : Nat → Nat → Int} (hK : K ≤ 9) (hK0 : 0 < K) (hh : pu_hp K F B) (hF : ∀ j, j < K → σ 512 j = Int32.ofInt (F j)) (hB : ∀ i j, i < K → j < K → σ (513 + 1 + 1 * i) j = Int32.ofInt (B i j)) (hn : 1000 < n) : pu_wp (tw_P_X12_shortest n (Int32.ofNat K) σ) (fun r => r.1 = pu_mC 1000000 (pu_best K F B) ∧ pu_fr pu_F14 σ r.2) := by
  have h9 : 2 ^ K ≤ 2 ^ 9 := Nat.pow_le_pow_right (by decide) hK
  have h512 : 2 ^ 9 = 512 := rfl
  have hp : 2 ^ 1 ≤ 2 ^ K := Nat.pow_le_pow_right (by decide) hK0
  have hp2 : 2 ^ 1 = 2 := rfl
  unfold tw_P_X12_shortest
  rw [pu_shl1 K (by omega), pu_l523, pu_l513, pu_l512]
  refine pu_lt (pu_lt (pu_lt ?_))
  refine pu_lp (J := fun x => ∃ s, 1 ≤ s ∧ s ≤ 2 ^ K ∧ x.1 = Int32.ofNat s ∧ (∀ s' i, 1 ≤ s' → s' < s → i < K → s'.testBit i = true → x.2 (523 + 1 + 1 * s') i = Int32.ofInt (pu_tab K F B s s' i)) ∧ pu_fr pu_F14 σ x.2) (m := fun x => 512 - x.1.toNatClampNeg) ?_ n _ (by show 512 - _ < n; omega) ⟨1, Nat.le_refl _, by omega, rfl, fun s' i z1 z2 => by omega, pu_fr_refl⟩
  rintro k5 ⟨ss, σ1⟩ ⟨s, hs1, hs2, e1, hT, hFr⟩ hk5
  dsimp only [] at e1 hT hFr
  subst e1
  dsimp only []
  have hr := pu_tab_rng hK hh s hs2
  refine pu_if (fun c1 => ?_) (fun c1 => ?_)
  · have c1 := (pu_ltn (by omega) (by omega)).mp c1
    have hu : s = 2 ^ K := by omega
    have hval : ∀ j, j < K → σ1 (523 + 1 + 1 * (2 ^ K - 1)) j = Int32.ofInt (pu_tab K F B (2 ^ K) (2 ^ K - 1) j) := fun j hj => by
      have := hT (2 ^ K - 1) j (by omega) (by omega) hj (pu_all1 hj)
      rw [hu] at this
      exact this
    have hrg : ∀ j, j < K → -1000 ≤ pu_tab K F B (2 ^ K) (2 ^ K - 1) j ∧ pu_tab K F B (2 ^ K) (2 ^ K - 1) j < 1000000 := fun j hj => by
      have := pu_tab_rng hK hh (2 ^ K) (Nat.le_refl _) (2 ^ K - 1) j (by omega) hj (pu_all1 hj)
      omega
    rw [pu_n (show 2 ^ K - 1 < 2147483648 by omega), pu_lT (show 2 ^ K - 1 < 512 by omega)]
    refine pu_lt ?_
    refine pu_lp (J := fun x => ∃ j, j ≤ K ∧ x.2.1 = Int32.ofNat j ∧ x.1 = pu_mC 1000000 (pu_mo (fun _ => true) (fun k => pu_tab K F B (2 ^ K) (2 ^ K - 1) k) j) ∧ x.2.2 = σ1) (m := fun x => K - x.2.1.toNatClampNeg) ?_ n _ (by show K - _ < n; omega) ⟨0, by omega, rfl, rfl, rfl⟩
    rintro k8 ⟨ff, jj, σ2⟩ ⟨j, hj2, e1, e2, e3⟩ hk8
    dsimp only [] at e1 e2 e3
    subst e1; subst e2; subst e3
    dsimp only []
    refine pu_if (fun c2 => ?_) (fun c2 => ?_)
    · have c2 := (pu_le (by omega) (by omega)).mp c2
      have : j = K := by omega
      subst this
      exact pu_some ⟨rfl, hFr⟩
    have c2 : j < K := by rw [pu_le (by omega) (by omega)] at c2; omega
    refine pu_ck (pu_ok (by omega) (by omega)) (pu_ck (pu_ok (by omega) (by omega)) ?_)
    rw [pu_n (show j < 2147483648 by omega), hval j c2]
    refine pu_bde pu_min (pu_lt (pu_lt ?_))
    have em : Int32.ofNat j + (1 : Int32) = Int32.ofNat (j + 1) := pu_add j 1
    rw [em]
    refine hk8 _ ⟨j + 1, by omega, rfl, ?_, rfl⟩ ?_
    · exact pu_mC_R (p := fun _ => true) (f := fun k => pu_tab K F B (2 ^ K) (2 ^ K - 1) k) rfl (by decide) (hrg j c2) (fun v hv => by
        have := pu_mo_rng (p := fun _ => true) (f := fun k => pu_tab K F B (2 ^ K) (2 ^ K - 1) k) (lo := -1000) (hi := 999999) j (fun i hi _ => by have := hrg i (by omega); (try dsimp only []); omega) v hv
        omega)
    · show K - (Int32.ofNat (j + 1)).toNatClampNeg < K - (Int32.ofNat j).toNatClampNeg
      rw [pu_n (by omega), pu_n (by omega)]
      omega
  have c1 : s < 2 ^ K := by
    have : ¬ 2 ^ K - 1 < s := fun z => c1 ((pu_ltn (by omega) (by omega)).mpr z)
    omega
  refine pu_lt ?_
  refine pu_lp (J := fun x => ∃ k, k ≤ K ∧ x.2.1 = Int32.ofNat k ∧ x.1 = Int32.ofNat s ∧ (∀ s' i, 1 ≤ s' → s' < s → i < K → s'.testBit i = true → x.2.2 (523 + 1 + 1 * s') i = Int32.ofInt (pu_tab K F B s s' i)) ∧ (∀ i, i < k → s.testBit i = true → x.2.2 (523 + 1 + 1 * s) i = Int32.ofInt (pu_ent K F B (pu_tab K F B s) s i)) ∧ pu_fr pu_F14 σ x.2.2) (m := fun x => K - x.2.1.toNatClampNeg) ?_ n _ (by show K - _ < n; omega) ⟨0, by omega, rfl, rfl, hT, fun i hi => absurd hi (Nat.not_lt_zero _), hFr⟩
  clear hT hFr
  rintro k15 ⟨s2, kk, σ2⟩ ⟨k, hk, e1, e2, hT, hE, hFr⟩ hk15
  dsimp only [] at e1 e2 hT hE hFr
  subst e1; subst e2
  dsimp only []
  refine pu_if (fun c3 => ?_) (fun c3 => ?_)
  · have c3 := (pu_le (by omega) (by omega)).mp c3
    have : k = K := by omega
    subst this
    refine pu_lt ?_
    have em : Int32.ofNat s + (1 : Int32) = Int32.ofNat (s + 1) := pu_add s 1
    rw [em]
    refine hk5 _ ⟨s + 1, by omega, by omega, rfl, fun s' i z1 z2 z3 z4 => ?_, hFr⟩ ?_
    · by_cases e : s' = s
      · subst e
        rw [pu_tab_s]
        exact hE i z3 z4
      · rw [pu_tab_n e]
        exact hT s' i z1 (by omega) z3 z4
    · show 512 - (Int32.ofNat (s + 1)).toNatClampNeg < 512 - (Int32.ofNat s).toNatClampNeg
      rw [pu_n (by omega), pu_n (by omega)]
      omega
  have c3 : k < K := by rw [pu_le (by omega) (by omega)] at c3; omega
  obtain ⟨d1, d2, d3, d4⟩ := pu_bitsT k (by omega) s (by omega)
  rw [d1, pu_n (show s < 2147483648 by omega), pu_lT (show s < 512 by omega)]
  have g512 : σ2 512 k = Int32.ofInt (F k) := by rw [hFr 512 (by unfold pu_F14; omega)]; exact hF k c3
  have hlast : ∀ s0 : tw_Sg, (∀ s' i, 1 ≤ s' → s' < s → i < K → s'.testBit i = true → s0 (523 + 1 + 1 * s') i = Int32.ofInt (pu_tab K F B s s' i)) → (∀ i, i < k + 1 → s.testBit i = true → s0 (523 + 1 + 1 * s) i = Int32.ofInt (pu_ent K F B (pu_tab K F B s) s i)) → pu_fr pu_F14 σ s0 → pu_wp (k15 (Int32.ofNat s, Int32.ofNat k + (1 : Int32), s0)) (fun r => r.1 = pu_mC 1000000 (pu_best K F B) ∧ pu_fr pu_F14 σ r.2) := fun s0 z1 z2 z3 => by
    have em : Int32.ofNat k + (1 : Int32) = Int32.ofNat (k + 1) := pu_add k 1
    rw [em]
    refine hk15 _ ⟨k + 1, by omega, rfl, rfl, z1, z2, z3⟩ ?_
    show K - (Int32.ofNat (k + 1)).toNatClampNeg < K - (Int32.ofNat k).toNatClampNeg
    rw [pu_n (by omega), pu_n (by omega)]
    omega
  refine pu_lt (pu_ck (pu_ok (by omega) (by omega)) ?_)
  refine pu_jn (R := fun v => s.testBit k = true → v = (if pu_rs s k = 0 then Int32.ofInt (F k) else 1000000)) (fun v hv => ?_) (fun f hf => ?_)
  rotate_left
  · refine pu_if (fun c4 => ?_) (fun c4 => ?_)
    · refine pu_if (fun c5 => ?_) (fun c5 => ?_)
      · refine hf _ (fun _ => ?_)
        exact (if_neg (fun z => c5 (by rw [z]; rfl))).symm
      · have c5 : pu_rs s k = 0 := by
          by_cases hb : s.testBit k = true
          · have := d3 hb
            exact (pu_eq (b := 0) (by omega) (by decide)).mp (Classical.not_not.mp c5)
          · have := d4 hb
            rw [this] at c5
            have := (pu_eq (b := 0) (by omega) (by decide)).mp (Classical.not_not.mp c5)
            omega
        refine pu_ck (pu_ok (by omega) (by omega)) (hf _ (fun _ => ?_))
        rw [if_pos c5, pu_n (by omega)]
        exact g512
    · have c4 := Classical.not_not.mp c4
      refine hf _ (fun hb => ?_)
      have := d3 hb
      have := (pu_eq (by omega) (by omega)).mp c4
      omega
  refine pu_ck (pu_ok (by omega) (by omega)) ?_
  rw [pu_n (show k < 2147483648 by omega)]
  refine pu_ltG (P := fun t => (∀ s' i, 1 ≤ s' → s' < s → i < K → s'.testBit i = true → t (523 + 1 + 1 * s') i = Int32.ofInt (pu_tab K F B s s' i)) ∧ (∀ i, i < k → s.testBit i = true → t (523 + 1 + 1 * s) i = Int32.ofInt (pu_ent K F B (pu_tab K F B s) s i)) ∧ t (523 + 1 + 1 * s) k = v ∧ pu_fr pu_F14 σ t) ⟨fun s' i z1 z2 z3 z4 => ?_, fun i hi hb => ?_, ?_, pu_fr_trans hFr (pu_fr_up (by unfold pu_F14; omega))⟩ (fun σ3 h3 => ?_)
  · show tw_up σ2 _ _ _ _ _ = _
    rw [tw_up_n (by omega)]
    exact hT s' i z1 z2 z3 z4
  · show tw_up σ2 _ _ _ _ _ = _
    rw [tw_up_s]
    unfold upd
    rw [if_neg (by omega)]
    exact hE i hi hb
  · show tw_up σ2 _ _ _ _ _ = _
    rw [tw_up_s]
    exact if_pos rfl
  clear hT hE hFr hk15 hk5
  obtain ⟨hT, hE, hV, hFr⟩ := h3
  refine pu_lt ?_
  by_cases hb : s.testBit k = true
  rotate_left
  · -- the stop is not in the set
    have e := d4 hb
    refine pu_lp (J := fun x => x.1 = Int32.ofNat s ∧ x.2.1 = Int32.ofNat k ∧ x.2.2.2 = σ3) (m := fun _ => 0) ?_ n _ (by omega) ⟨rfl, rfl, rfl⟩
    rintro k24 ⟨s4, k4, i4, σ4⟩ ⟨e1, e2, e3⟩ -
    dsimp only [] at e1 e2 e3
    subst e1; subst e2; subst e3
    dsimp only []
    have hfin : pu_wp (tw_lt (Int32.ofNat k + (1 : Int32)) (fun (v27 : Int32) => k15 (Int32.ofNat s, v27, σ4))) (fun r => r.1 = pu_mC 1000000 (pu_best K F B) ∧ pu_fr pu_F14 σ r.2) := pu_lt (hlast σ4 hT (fun i hi hb' => by
      by_cases e : i = k
      · subst e; exact absurd hb' hb
      · exact hE i (by omega) hb') hFr)
    refine pu_jn0 (pu_if (fun _ => hfin) (fun _ => pu_if (fun _ => hfin) (fun c => absurd ?_ c)))
    rw [e]
  have d3 := d3 hb
  have hv := hv hb
  subst hv
  obtain ⟨-, -, he⟩ := pu_ent_rng hK hh c1 c3 hb hr
  have heq : pu_rs s k = 0 → pu_ent K F B (pu_tab K F B s) s k = F k := fun z => if_pos z
  have hfq : ∀ i, i < K → (pu_rs s k).testBit i = true → -1000 ≤ pu_tab K F B s (pu_rs s k) i + B i k ∧ pu_tab K F B s (pu_rs s k) i + B i k < 1000000 := fun i hi hbi => by
    have t1 := hr (pu_rs s k) i d3 hi hbi
    have t2 := hh.2 i k hi c3
    omega
  generalize pu_rs s k = r at d3 he heq hfq hV ⊢
  refine pu_lp (J := fun x => ∃ i, i ≤ K ∧ x.2.2.1 = Int32.ofNat i ∧ x.1 = Int32.ofNat s ∧ x.2.1 = Int32.ofNat k ∧ (∀ s' i, 1 ≤ s' → s' < s → i < K → s'.testBit i = true → x.2.2.2 (523 + 1 + 1 * s') i = Int32.ofInt (pu_tab K F B s s' i)) ∧ (∀ i, i < k → s.testBit i = true → x.2.2.2 (523 + 1 + 1 * s) i = Int32.ofInt (pu_ent K F B (pu_tab K F B s) s i)) ∧ x.2.2.2 (523 + 1 + 1 * s) k = (if r = 0 then Int32.ofInt (F k) else pu_mC 1000000 (pu_mo (fun i => r.testBit i) (fun i => pu_tab K F B s r i + B i k) i)) ∧ pu_fr pu_F14 σ x.2.2.2) (m := fun x => K - x.2.2.1.toNatClampNeg) ?_ n _ (by show K - _ < n; omega) ⟨0, by omega, rfl, rfl, rfl, hT, hE, hV, hFr⟩
  clear hT hE hV hFr g512
  rintro k24 ⟨s4, k4, i4, σ4⟩ ⟨i, hi, e1, e2, e3, hT, hE, hV, hFr⟩ hk24
  dsimp only [] at e1 e2 e3 hT hE hV hFr
  subst e1; subst e2; subst e3
  dsimp only []
  refine pu_jn (R := fun _ => i = K) (fun u hu => ?_) (fun g hg => ?_)
  · have hu : i = K := hu
    subst hu
    refine pu_lt (hlast σ4 hT (fun j hj hbj => ?_) hFr)
    by_cases e : j = k
    · subst e
      rw [hV]
      by_cases hr0 : r = 0
      · rw [if_pos hr0, heq hr0]
      · rw [if_neg hr0, he hr0]
        rfl
    · exact hE j (by omega) hbj
  refine pu_if (fun c4 => hg () ?_) (fun c4 => ?_)
  · have c4 := (pu_le (by omega) (by omega)).mp c4
    show i = K
    omega
  have c4 : i < K := by rw [pu_le (by omega) (by omega)] at c4; omega
  refine pu_if (fun c5 => ?_) (fun c5 => ?_)
  · have := (pu_eq (by omega) (by omega)).mp c5
    omega
  clear c5
  obtain ⟨-, q2, -, -⟩ := pu_bitsT i (by omega) r (by omega)
  have hstep : ∀ t : tw_Sg, (∀ s' i, 1 ≤ s' → s' < s → i < K → s'.testBit i = true → t (523 + 1 + 1 * s') i = Int32.ofInt (pu_tab K F B s s' i)) → (∀ i, i < k → s.testBit i = true → t (523 + 1 + 1 * s) i = Int32.ofInt (pu_ent K F B (pu_tab K F B s) s i)) → t (523 + 1 + 1 * s) k = (if r = 0 then Int32.ofInt (F k) else pu_mC 1000000 (pu_mo (fun i => r.testBit i) (fun i => pu_tab K F B s r i + B i k) (i + 1))) → pu_fr pu_F14 σ t → pu_wp (k24 (Int32.ofNat s, Int32.ofNat k, Int32.ofNat i + (1 : Int32), t)) (fun r => r.1 = pu_mC 1000000 (pu_best K F B) ∧ pu_fr pu_F14 σ r.2) := fun t z1 z2 z3 z4 => by
    have em : Int32.ofNat i + (1 : Int32) = Int32.ofNat (i + 1) := pu_add i 1
    rw [em]
    refine hk24 _ ⟨i + 1, by omega, rfl, rfl, rfl, z1, z2, z3, z4⟩ ?_
    show K - (Int32.ofNat (i + 1)).toNatClampNeg < K - (Int32.ofNat i).toNatClampNeg
    rw [pu_n (by omega), pu_n (by omega)]
    omega
  refine pu_jn0 (pu_if (fun c5 => ?_) (fun c5 => ?_))
  · rw [q2] at c5
    refine pu_lt (hstep σ4 hT hE ?_ hFr)
    rw [hV, pu_mo_S, if_neg c5]
  rw [q2] at c5
  have c5 := Classical.not_not.mp c5
  have hr0 : r ≠ 0 := fun z => by rw [z, Nat.zero_testBit] at c5; cases c5
  rw [pu_n (show s < 2147483648 by omega), pu_n (show r < 2147483648 by omega), pu_n (show i < 2147483648 by omega), pu_n (show k < 2147483648 by omega), pu_lT (show s < 512 by omega), pu_lT (show r < 512 by omega), pu_lB (show i < 9 by omega)]
  refine pu_ck (pu_ok (by omega) (by omega)) (pu_ck (pu_ok (by omega) (by omega)) (pu_ck (pu_ok (by omega) (by omega)) (pu_ck (pu_ok (by omega) (by omega)) (pu_ck (pu_ok (by omega) (by omega)) (pu_ck (pu_ok (by omega) (by omega)) (pu_ck (pu_ok (by omega) (by omega)) ?_))))))
  have v1 : σ4 (523 + 1 + 1 * r) i = Int32.ofInt (pu_tab K F B s r i) := hT r i (by omega) d3 c4 c5
  have v2 : σ4 (513 + 1 + 1 * i) k = Int32.ofInt (B i k) := by rw [hFr _ (by unfold pu_F14; omega)]; exact hB i k c4 c3
  rw [v1, v2, pu_addII, hV, if_neg hr0]
  refine pu_bde pu_min (pu_ck (pu_ok (by omega) (by omega)) ?_)
  have hm := pu_mC_R (p := fun i => r.testBit i) (f := fun i => pu_tab K F B s r i + B i k) (m := i) (x := 1000000) c5 (by decide) (hfq i c4 c5) (fun v hv => by
    have := pu_mo_rng (p := fun i => r.testBit i) (f := fun i => pu_tab K F B s r i + B i k) (lo := -1000) (hi := 999999) i (fun j hj hbj => by have := hfq j (by omega) hbj; (try dsimp only []); omega) v hv
    omega)
  have hm : (if Int32.ofInt (pu_tab K F B s r i + B i k) ≤ pu_mC 1000000 (pu_mo (fun i => r.testBit i) (fun i => pu_tab K F B s r i + B i k) i) then Int32.ofInt (pu_tab K F B s r i + B i k) else pu_mC 1000000 (pu_mo (fun i => r.testBit i) (fun i => pu_tab K F B s r i + B i k) i)) = _ := hm
  rw [hm]
  refine pu_lt (pu_lt (hstep _ (fun s' j z1 z2 z3 z4 => ?_) (fun j hj hbj => ?_) ?_ (pu_fr_trans hFr (pu_fr_up (by unfold pu_F14; omega)))))
  · show tw_up σ4 _ _ _ _ _ = _
    rw [tw_up_n (by omega)]
    exact hT s' j z1 z2 z3 z4
  · show tw_up σ4 _ _ _ _ _ = _
    rw [tw_up_s]
    unfold upd
    rw [if_neg (by omega)]
    exact hE j hj hbj
  · show tw_up σ4 _ _ _ _ _ = _
    rw [tw_up_s, if_neg hr0]
    exact if_pos rfl
