/-! tour of the class -/
theorem pu_l437 : tw_ln (436 + 1) = 9 := by decide +kernel
theorem pu_l439 : tw_ln (438 + 1) = 90 := by decide +kernel
theorem pu_l441 : tw_ln (440 + 1) = 4608 := by decide +kernel
def pu_F12 (k : Nat) : Prop := k = 137 ∨ k = 139 ∨ k = 439
theorem pu_9 {x y : Nat} : Int32.ofNat x * (9 : Int32) + Int32.ofNat y = Int32.ofNat (x * 9 + y) := by
  show Int32.ofNat x * Int32.ofNat 9 + Int32.ofNat y = _
  rw [pu_mul, pu_add]
/-- the distance over land from a cell -/
def pu_dd (a : Nat → Int32) (w h s : Nat) : Nat → Int := (pu_far (pu_land a) w h s).1
theorem pu_dd_rng {a : Nat → Int32} {w h nb nc s c : Nat} (H : pu_WF a w h nb nc) (hs : s < w * h) (hc : c < w * h) : -1 ≤ pu_dd a w h s c ∧ pu_dd a w h s c ≤ 400 := by
  obtain ⟨c0, hB⟩ := pu_far_BI (g := pu_land a) H.1.2.2.2.1 H.1.2.2.2.2.2 hs
  exact hB.2.2 c hc
theorem pu_chops {σ : tw_Sg} {a : Nat → Int32} {w h nb nc n K row s : Nat} {gs : Nat → Nat} (H : pu_WF a w h nb nc) (C : pu_CC σ a w h nb nc) (hK : K ≤ 9) (hrow : row ≤ 9) (hs : s < w * h) (hg : ∀ j, j < K → gs j < w * h) (h435 : σ 435 2 = Int32.ofNat K) (h437 : ∀ j, j < K → σ 437 j = Int32.ofNat (pu_sp w (gs j))) (hn : 1000 < n) : pu_wp (tw_P_X9_measureHops n (Int32.ofNat row) (Int32.ofNat (pu_sp w s)) σ) (fun r => r.1 = pu_bi (∀ j, j < K → 0 ≤ pu_dd a w h s (gs j)) ∧ (∀ j, j < K → r.2 439 (row * 9 + j) = Int32.ofInt (pu_dd a w h s (gs j))) ∧ (∀ i, (i < row * 9 ∨ row * 9 + 9 ≤ i) → r.2 439 i = σ 439 i) ∧ pu_fr pu_F12 σ r.2) := by
  obtain ⟨-, -, w1, w2, h1, h2⟩ := id H.1
  unfold tw_P_X9_measureHops
  refine pu_bd (pu_cdist w2 h2 (by omega) hs C.1.2.1) (fun r1 hr1 => ?_)
  obtain ⟨x1, ⟨x2, -⟩, x3⟩ := hr1
  have x2 : ∀ c, c < w * h → r1.2 137 (pu_sp w c) = Int32.ofInt (pu_dd a w h s c) := x2
  refine pu_ck (by rw [x1]; rfl) (pu_lt (pu_lt ?_))
  refine pu_lp (J := fun t => ∃ j, j ≤ K ∧ t.2.1 = Int32.ofNat j ∧ t.1 = pu_bi (∀ i, i < j → 0 ≤ pu_dd a w h s (gs i)) ∧ (∀ i, i < j → t.2.2 439 (row * 9 + i) = Int32.ofInt (pu_dd a w h s (gs i))) ∧ (∀ i, (i < row * 9 ∨ row * 9 + 9 ≤ i) → t.2.2 439 i = σ 439 i) ∧ pu_fr (fun k => k = 439) r1.2 t.2.2) (m := fun t => K - t.2.1.toNatClampNeg) ?_ n _ (by show K - _ < n; omega) ⟨0, by omega, rfl, (pu_bi_t (fun i hi => absurd hi (Nat.not_lt_zero _))).symm, fun i hi => absurd hi (Nat.not_lt_zero _), fun i _ => congrFun (x3 439 (by unfold pu_F2; omega)) i, pu_fr_refl⟩
  rintro k6 ⟨oo, jj, σ1⟩ ⟨j, hj, e1, e2, hd, ho, hF⟩ hk6
  dsimp only [] at e1 e2 hd ho hF
  subst e1; subst e2
  dsimp only []
  have f435 : σ1 435 2 = Int32.ofNat K := by rw [hF 435 (by decide), x3 435 (by unfold pu_F2; omega)]; exact h435
  refine pu_if (fun c1 => ?_) (fun c1 => ?_) <;> rw [f435] at c1
  · have c1 := (pu_le (by omega) (by omega)).mp c1
    have : j = K := by omega
    subst this
    exact pu_ck pu_bi_01 (pu_some ⟨rfl, hd, ho, pu_fr_trans (pu_fr_mono x3 (fun k hk => by unfold pu_F2 at hk; unfold pu_F12; omega)) (pu_fr_mono hF (fun k hk => by unfold pu_F12; omega))⟩)
  have c1 : j < K := by rw [pu_le (by omega) (by omega)] at c1; omega
  have hgj := hg j c1
  have hsp := pu_sp_rng w2 h2 hgj
  refine pu_bde (pu_get (i := j) pu_l437 (by decide) (by omega)) ?_
  have f437 : σ1 (436 + 1) j = Int32.ofNat (pu_sp w (gs j)) := by
    rw [hF (436 + 1) (by decide), x3 (436 + 1) (by unfold pu_F2; omega)]
    exact h437 j c1
  rw [f437]
  refine pu_bde (pu_get pu_l137 (by decide) (by omega)) ?_
  have f137 : σ1 (136 + 1) (pu_sp w (gs j)) = Int32.ofInt (pu_dd a w h s (gs j)) := by
    rw [hF (136 + 1) (by decide)]
    exact x2 _ hgj
  rw [f137]
  refine pu_lt ?_
  rw [pu_9]
  refine pu_bde (pu_put (i := row * 9 + j) pu_l439 (by decide) (by omega)) ?_
  obtain ⟨D1, D2⟩ := pu_dd_rng H hs hgj
  refine pu_jn (R := fun v => v = pu_bi (∀ i, i < j + 1 → 0 ≤ pu_dd a w h s (gs i))) (fun v hv => ?_) (fun f hf => ?_)
  · subst hv
    refine pu_lt (pu_lt ?_)
    have em : Int32.ofNat j + (1 : Int32) = Int32.ofNat (j + 1) := pu_add j 1
    rw [em]
    refine hk6 _ ⟨j + 1, by omega, rfl, rfl, fun i hi => ?_, fun i hi => ?_, pu_fr_trans hF (pu_fr_up rfl)⟩ ?_
    · show tw_up σ1 439 _ _ 439 _ = _
      rw [tw_up_s]
      unfold upd
      by_cases e : i = j
      · subst e; exact if_pos rfl
      · rw [if_neg (by omega)]
        exact hd i (by omega)
    · show tw_up σ1 439 _ _ 439 _ = _
      rw [tw_up_s]
      unfold upd
      rw [if_neg (by omega)]
      exact ho i hi
    · show K - (Int32.ofNat (j + 1)).toNatClampNeg < K - (Int32.ofNat j).toNatClampNeg
      rw [pu_n (by omega), pu_n (by omega)]
      omega
  · refine pu_jn0 (pu_if (fun c2 => ?_) (fun c2 => ?_))
    · rw [pu_bi_0] at c2
      exact hf _ (pu_bi_f (fun z => c2 (fun i hi => z i (by omega)))).symm
    · rw [pu_bi_0] at c2
      have c2 := Classical.not_not.mp c2
      refine pu_if (fun c3 => ?_) (fun c3 => ?_)
      · rw [pu_neg2 D1 D2] at c3
        exact hf _ (pu_bi_f (fun z => by have := z j (by omega); omega)).symm
      · rw [pu_neg2 D1 D2] at c3
        refine hf _ (pu_bi_t (fun i hi => ?_)).symm
        by_cases e : i = j
        · subst e; omega
        · exact c2 i (by omega)
/-- what the least so far is held as -/
def pu_mC (x : Int32) : Option Int → Int32 | none => x | some v => Int32.ofInt v
theorem pu_mC_S {p : Nat → Bool} {f : Nat → Int} {m : Nat} {x : Int32} (hp : p m = true) (hx : 1000000 ≤ x.toInt) (hr : -1000 ≤ f m ∧ f m < 1000000) (hv : ∀ v, pu_mo p f m = some v → -1000 ≤ v ∧ v < 1000000) : (if Int32.ofInt (f m) < pu_mC x (pu_mo p f m) then Int32.ofInt (f m) else pu_mC x (pu_mo p f m)) = pu_mC x (pu_mo p f (m + 1)) := by
  rw [pu_mo_S, if_pos hp]
  cases e : pu_mo p f m with
  | none =>
    refine if_pos ?_
    show Int32.ofInt (f m) < x
    rw [Int32.lt_iff_toInt_lt, pu_int (by omega) (by omega)]
    omega
  | some v =>
    have := hv v e
    show (if Int32.ofInt (f m) < Int32.ofInt v then Int32.ofInt (f m) else Int32.ofInt v) = Int32.ofInt (if f m < v then f m else v)
    by_cases c : f m < v
    · rw [if_pos c, if_pos]
      rw [Int32.lt_iff_toInt_lt, pu_int (by omega) (by omega), pu_int (by omega) (by omega)]
      exact c
    · rw [if_neg c, if_neg]
      rw [Int32.lt_iff_toInt_lt, pu_int (by omega) (by omega), pu_int (by omega) (by omega)]
      exact c
theorem pu_addII {x y : Int} : Int32.ofInt x + Int32.ofInt y = Int32.ofInt (x + y) := (Int32.ofInt_add x y).symm
theorem pu_cfew {σ : tw_Sg} {n K s k : Nat} {F : Nat → Int} {B t : Nat → Nat → Int} (hK : K ≤ 9) (hh : pu_hp K F B) (hs : s < 2 ^ K) (hk : k < K) (hb : s.testBit k = true) (ht : ∀ s' i : Nat, s' < s → i < K → s'.testBit i = true → -((s' : Int) + 1) ≤ t s' i ∧ t s' i ≤ 400 * ((s' : Int) + 1)) (h435 : σ 435 2 = Int32.ofNat K) (hF : ∀ j, j < K → σ 439 (K * 9 + j) = Int32.ofInt (F j)) (hB : ∀ i j, i < K → j < K → σ 439 (i * 9 + j) = Int32.ofInt (B i j)) (hT : ∀ s' i, 1 ≤ s' → s' < s → i < K → s'.testBit i = true → σ 441 (s' * 9 + i) = Int32.ofInt (t s' i)) (hn : 1000 < n) : pu_wp (tw_P_X9_fewestTo n (Int32.ofNat s) (Int32.ofNat k) σ) (fun r => r = Int32.ofInt (pu_ent K F B t s k)) := by
  have h9 : 2 ^ K ≤ 2 ^ 9 := Nat.pow_le_pow_right (by decide) hK
  have h512 : 2 ^ 9 = 512 := rfl
  obtain ⟨b1, b2, b3, -⟩ := pu_bitsT k (by omega) s (by omega)
  have b3 := b3 hb
  obtain ⟨-, -, he⟩ := pu_ent_rng hK hh hs hk hb ht
  unfold tw_P_X9_fewestTo
  rw [b1]
  refine pu_lt (pu_if (fun c1 => ?_) (fun c1 => ?_))
  · have c1 : pu_rs s k ≠ 0 := fun z => c1 (by rw [z]; rfl)
    have he := he c1
    generalize pu_rs s k = r at b3 c1 he ⊢
    have hf : ∀ i, i < K → r.testBit i = true → -1000 ≤ t r i + B i k ∧ t r i + B i k < 1000000 := fun i hi hbi => by
      have t1 := ht r i b3 hi hbi
      have t2 := hh.2 i k hi hk
      omega
    refine pu_lt (pu_lt ?_)
    refine pu_lp (J := fun x => ∃ i, i ≤ K ∧ x.2 = Int32.ofNat i ∧ x.1 = pu_mC 1000000 (pu_mo (fun i => r.testBit i) (fun i => t r i + B i k) i)) (m := fun x => K - x.2.toNatClampNeg) ?_ n _ (by show K - _ < n; omega) ⟨0, by omega, rfl, rfl⟩
    rintro k5 ⟨ff, ii⟩ ⟨i, hi, e1, e2⟩ hk5
    dsimp only [] at e1 e2
    subst e1; subst e2
    dsimp only []
    refine pu_if (fun c2 => ?_) (fun c2 => ?_) <;> rw [h435] at c2
    · have c2 := (pu_le (by omega) (by omega)).mp c2
      have : i = K := by omega
      subst this
      rw [he]
      exact pu_some rfl
    have c2 : i < K := by rw [pu_le (by omega) (by omega)] at c2; omega
    obtain ⟨-, d2, -, -⟩ := pu_bitsT i (by omega) r (by omega)
    refine pu_jn (R := fun v => v = pu_mC 1000000 (pu_mo (fun i => r.testBit i) (fun i => t r i + B i k) (i + 1))) (fun v hv => ?_) (fun f hf' => ?_)
    · subst hv
      refine pu_lt ?_
      have em : Int32.ofNat i + (1 : Int32) = Int32.ofNat (i + 1) := pu_add i 1
      rw [em]
      refine hk5 _ ⟨i + 1, by omega, rfl, rfl⟩ ?_
      show K - (Int32.ofNat (i + 1)).toNatClampNeg < K - (Int32.ofNat i).toNatClampNeg
      rw [pu_n (by omega), pu_n (by omega)]
      omega
    · refine pu_if (fun c3 => ?_) (fun c3 => ?_)
      · rw [d2] at c3
        refine hf' _ ?_
        rw [pu_mo_S]
        exact congrArg _ (if_neg c3).symm
      · rw [d2] at c3
        have c3 := Classical.not_not.mp c3
        rw [pu_9, pu_9]
        refine pu_bde (pu_get (i := i * 9 + k) pu_l439 (by decide) (by omega)) (pu_lt ?_)
        refine pu_bde (pu_get (i := r * 9 + i) pu_l441 (by decide) (by omega)) ?_
        have f1 : σ (438 + 1) (i * 9 + k) = Int32.ofInt (B i k) := hB i k c2 hk
        have f2 : σ (440 + 1) (r * 9 + i) = Int32.ofInt (t r i) := hT r i (by omega) b3 c2 c3
        rw [f1, f2, pu_addII]
        refine pu_lt (hf' _ ?_)
        exact pu_mC_S (p := fun i => r.testBit i) (f := fun i => t r i + B i k) c3 (by decide) (hf i c2 c3) (fun v hv => by
          have := pu_mo_rng (p := fun i => r.testBit i) (f := fun i => t r i + B i k) (lo := -1000) (hi := 999999) i (fun j hj hbj => by have := hf j (by omega) hbj; (try dsimp only []); omega) v hv
          omega)
  · have c1 : pu_rs s k = 0 := by
      have c1 := Classical.not_not.mp c1
      exact (pu_eq (b := 0) (by omega) (by decide)).mp c1
    rw [h435, pu_9]
    refine pu_bde (pu_get (i := K * 9 + k) pu_l439 (by decide) (by omega)) (pu_some ?_)
    unfold pu_ent
    rw [if_pos c1]
    exact hF k hk
/-- the fewest over all -/
def pu_best (n : Nat) (F : Nat → Int) (B : Nat → Nat → Int) : Option Int := pu_mo (fun _ => true) (fun k => pu_tab n F B (2 ^ n) (2 ^ n - 1) k) n
theorem pu_all1 {K k : Nat} (hK : k < K) : (2 ^ K - 1).testBit k = true := by
  rw [Nat.testBit_two_pow_sub_one]
  exact decide_eq_true hK
theorem pu_shl1 : ∀ K, K < 10 → ((1 : Int32) <<< (Int32.ofNat K &&& 31)) - (1 : Int32) = Int32.ofNat (2 ^ K - 1) := fun K hK => of_decide_eq_true (tw_rng (n := 10) (p := fun K => decide (((1 : Int32) <<< (Int32.ofNat K &&& 31)) - (1 : Int32) = Int32.ofNat (2 ^ K - 1))) (by decide +kernel) K hK)
def pu_F13 (k : Nat) : Prop := k = 441
theorem pu_cjoin {σ : tw_Sg} {n K : Nat} {F : Nat → Int} {B : Nat → Nat → Int} (hK : K ≤ 9) (hK0 : 0 < K) (hh : pu_hp K F B) (h435 : σ 435 2 = Int32.ofNat K) (hF : ∀ j, j < K → σ 439 (K * 9 + j) = Int32.ofInt (F j)) (hB : ∀ i j, i < K → j < K → σ 439 (i * 9 + j) = Int32.ofInt (B i j)) (hn : 1000 < n) : pu_wp (tw_P_X9_joinHops n σ) (fun r => r.1 = pu_mC 1000000 (pu_best K F B) ∧ pu_fr pu_F13 σ r.2) := by
  have h9 : 2 ^ K ≤ 2 ^ 9 := Nat.pow_le_pow_right (by decide) hK
  have h512 : 2 ^ 9 = 512 := rfl
  have hp : 2 ^ 1 ≤ 2 ^ K := Nat.pow_le_pow_right (by decide) hK0
  have hp2 : 2 ^ 1 = 2 := rfl
  unfold tw_P_X9_joinHops
  rw [h435, pu_shl1 K (by omega)]
  refine pu_lt (pu_lt ?_)
  refine pu_lp (J := fun x => ∃ s, 1 ≤ s ∧ s ≤ 2 ^ K ∧ x.1 = Int32.ofNat s ∧ (∀ s' i, 1 ≤ s' → s' < s → i < K → s'.testBit i = true → x.2 441 (s' * 9 + i) = Int32.ofInt (pu_tab K F B s s' i)) ∧ pu_fr pu_F13 σ x.2) (m := fun x => 512 - x.1.toNatClampNeg) ?_ n _ (by show 512 - _ < n; omega) ⟨1, Nat.le_refl _, by omega, rfl, fun s' i z1 z2 => by omega, pu_fr_refl⟩
  rintro k4 ⟨ss, σ1⟩ ⟨s, hs1, hs2, e1, hT, hFr⟩ hk4
  dsimp only [] at e1 hT hFr
  subst e1
  dsimp only []
  have g435 : σ1 435 2 = Int32.ofNat K := by rw [hFr 435 (by unfold pu_F13; omega)]; exact h435
  have g439 : σ1 439 = σ 439 := hFr 439 (by unfold pu_F13; omega)
  have hr := pu_tab_rng hK hh s hs2
  refine pu_jn (R := fun _ => s = 2 ^ K) (fun u hu => ?_) (fun f hf => ?_)
  · -- the least over the last stops
    have hu : s = 2 ^ K := hu
    have hval : ∀ j, j < K → σ1 441 ((2 ^ K - 1) * 9 + j) = Int32.ofInt (pu_tab K F B (2 ^ K) (2 ^ K - 1) j) := fun j hj => by
      have := hT (2 ^ K - 1) j (by omega) (by omega) hj (pu_all1 hj)
      rw [hu] at this
      exact this
    have hrg : ∀ j, j < K → -1000 ≤ pu_tab K F B (2 ^ K) (2 ^ K - 1) j ∧ pu_tab K F B (2 ^ K) (2 ^ K - 1) j < 1000000 := fun j hj => by
      have := pu_tab_rng hK hh (2 ^ K) (Nat.le_refl _) (2 ^ K - 1) j (by omega) hj (pu_all1 hj)
      omega
    have e0 : Int32.ofNat (2 ^ K - 1) * (9 : Int32) = Int32.ofNat ((2 ^ K - 1) * 9) := by
      show Int32.ofNat (2 ^ K - 1) * Int32.ofNat 9 = _
      rw [pu_mul]
    rw [e0]
    refine pu_bde (pu_get (i := (2 ^ K - 1) * 9) pu_l441 (by decide) (by omega)) (pu_lt (pu_lt ?_))
    have v0 : σ1 (440 + 1) ((2 ^ K - 1) * 9) = Int32.ofInt (pu_tab K F B (2 ^ K) (2 ^ K - 1) 0) := hval 0 hK0
    rw [v0]
    refine pu_lp (J := fun x => ∃ j, 1 ≤ j ∧ j ≤ K ∧ x.2.1 = Int32.ofNat j ∧ x.1 = pu_mC 1000000 (pu_mo (fun _ => true) (fun k => pu_tab K F B (2 ^ K) (2 ^ K - 1) k) j) ∧ x.2.2 = σ1) (m := fun x => K - x.2.1.toNatClampNeg) ?_ n _ (by show K - _ < n; omega) ⟨1, Nat.le_refl _, by omega, rfl, rfl, rfl⟩
    rintro k11 ⟨ff, jj, σ2⟩ ⟨j, hj1, hj2, e1, e2, e3⟩ hk11
    dsimp only [] at e1 e2 e3
    subst e1; subst e2; subst e3
    dsimp only []
    refine pu_if (fun c2 => ?_) (fun c2 => ?_) <;> rw [g435] at c2
    · have c2 := (pu_le (by omega) (by omega)).mp c2
      have : j = K := by omega
      subst this
      exact pu_some ⟨rfl, hFr⟩
    have c2 : j < K := by rw [pu_le (by omega) (by omega)] at c2; omega
    rw [pu_add]
    refine pu_bde (pu_get (i := (2 ^ K - 1) * 9 + j) pu_l441 (by decide) (by omega)) ?_
    have vj : σ2 (440 + 1) ((2 ^ K - 1) * 9 + j) = Int32.ofInt (pu_tab K F B (2 ^ K) (2 ^ K - 1) j) := hval j c2
    rw [vj]
    refine pu_lt (pu_lt ?_)
    have em : Int32.ofNat j + (1 : Int32) = Int32.ofNat (j + 1) := pu_add j 1
    rw [em]
    refine hk11 _ ⟨j + 1, by omega, by omega, rfl, ?_, rfl⟩ ?_
    · exact pu_mC_S (p := fun _ => true) (f := fun k => pu_tab K F B (2 ^ K) (2 ^ K - 1) k) rfl (by decide) (hrg j c2) (fun v hv => by
        have := pu_mo_rng (p := fun _ => true) (f := fun k => pu_tab K F B (2 ^ K) (2 ^ K - 1) k) (lo := -1000) (hi := 999999) j (fun i hi _ => by have := hrg i (by omega); (try dsimp only []); omega) v hv
        omega)
    · show K - (Int32.ofNat (j + 1)).toNatClampNeg < K - (Int32.ofNat j).toNatClampNeg
      rw [pu_n (by omega), pu_n (by omega)]
      omega
  refine pu_if (fun c1 => ?_) (fun c1 => ?_)
  · have c1 := (pu_ltn (by omega) (by omega)).mp c1
    exact hf () (by show s = 2 ^ K; omega)
  have c1 : s < 2 ^ K := by
    have : ¬ 2 ^ K - 1 < s := fun z => c1 ((pu_ltn (by omega) (by omega)).mpr z)
    omega
  refine pu_if (fun c2 => ?_) (fun c2 => ?_)
  · have c2 := (pu_le (a := 512) (by omega) (by omega)).mp c2
    exact hf () (by show s = 2 ^ K; omega)
  refine pu_lt ?_
  refine pu_lp (J := fun x => ∃ k, k ≤ K ∧ x.2.1 = Int32.ofNat k ∧ x.1 = Int32.ofNat s ∧ (∀ s' i, 1 ≤ s' → s' < s → i < K → s'.testBit i = true → x.2.2 441 (s' * 9 + i) = Int32.ofInt (pu_tab K F B s s' i)) ∧ (∀ i, i < k → s.testBit i = true → x.2.2 441 (s * 9 + i) = Int32.ofInt (pu_ent K F B (pu_tab K F B s) s i)) ∧ pu_fr pu_F13 σ x.2.2) (m := fun x => K - x.2.1.toNatClampNeg) ?_ n _ (by show K - _ < n; omega) ⟨0, by omega, rfl, rfl, hT, fun i hi => absurd hi (Nat.not_lt_zero _), hFr⟩
  clear hT hFr g435 g439
  rintro k17 ⟨s2, kk, σ2⟩ ⟨k, hk, e1, e2, hT, hE, hFr⟩ hk17
  dsimp only [] at e1 e2 hT hE hFr
  subst e1; subst e2
  dsimp only []
  have g435 : σ2 435 2 = Int32.ofNat K := by rw [hFr 435 (by unfold pu_F13; omega)]; exact h435
  have g439 : σ2 439 = σ 439 := hFr 439 (by unfold pu_F13; omega)
  refine pu_if (fun c3 => ?_) (fun c3 => ?_) <;> rw [g435] at c3
  · have c3 := (pu_le (by omega) (by omega)).mp c3
    have : k = K := by omega
    subst this
    refine pu_lt ?_
    have em : Int32.ofNat s + (1 : Int32) = Int32.ofNat (s + 1) := pu_add s 1
    rw [em]
    refine hk4 _ ⟨s + 1, by omega, by omega, rfl, fun s' i z1 z2 z3 z4 => ?_, hFr⟩ ?_
    · by_cases e : s' = s
      · subst e
        rw [pu_tab_s]
        exact hE i z3 z4
      · rw [pu_tab_n e]
        exact hT s' i z1 (by omega) z3 z4
    · show 512 - (Int32.ofNat (s + 1)).toNatClampNeg < 512 - (Int32.ofNat s).toNatClampNeg
      rw [pu_n (by omega), pu_n (by omega)]
      omega
  have c3 : k < K := by rw [pu_le (by omega) (by omega)] at c3; omega
  obtain ⟨-, d2, -, -⟩ := pu_bitsT k (by omega) s (by omega)
  refine pu_jn (R := fun v => (∀ s' i, 1 ≤ s' → s' < s → i < K → s'.testBit i = true → v 441 (s' * 9 + i) = Int32.ofInt (pu_tab K F B s s' i)) ∧ (∀ i, i < k + 1 → s.testBit i = true → v 441 (s * 9 + i) = Int32.ofInt (pu_ent K F B (pu_tab K F B s) s i)) ∧ pu_fr pu_F13 σ v) (fun v hv => ?_) (fun g hg => ?_)
  · obtain ⟨z1, z2, z3⟩ := hv
    refine pu_lt ?_
    have em : Int32.ofNat k + (1 : Int32) = Int32.ofNat (k + 1) := pu_add k 1
    rw [em]
    refine hk17 _ ⟨k + 1, by omega, rfl, rfl, z1, z2, z3⟩ ?_
    show K - (Int32.ofNat (k + 1)).toNatClampNeg < K - (Int32.ofNat k).toNatClampNeg
    rw [pu_n (by omega), pu_n (by omega)]
    omega
  refine pu_if (fun c4 => ?_) (fun c4 => ?_)
  · rw [d2] at c4
    refine hg _ ⟨hT, fun i hi hb => ?_, hFr⟩
    by_cases e : i = k
    · subst e; exact absurd hb c4
    · exact hE i (by omega) hb
  rw [d2] at c4
  have c4 := Classical.not_not.mp c4
  refine pu_bd (pu_cfew (σ := σ2) (t := pu_tab K F B s) hK hh c1 c3 c4 (fun s' i z1 z2 z3 => hr s' i z1 z2 z3) g435 (fun j hj => by rw [g439]; exact hF j hj) (fun i j hi hj => by rw [g439]; exact hB i j hi hj) hT hn) (fun v hv => ?_)
  subst hv
  rw [pu_9]
  refine pu_bde (pu_put (i := s * 9 + k) pu_l441 (by decide) (by omega)) (hg _ ⟨fun s' i z1 z2 z3 z4 => ?_, fun i hi hb => ?_, pu_fr_trans hFr (pu_fr_up rfl)⟩)
  · show tw_up σ2 441 _ _ 441 _ = _
    rw [tw_up_s]
    unfold upd
    rw [if_neg (by omega)]
    exact hT s' i z1 z2 z3 z4
  · show tw_up σ2 441 _ _ 441 _ = _
    rw [tw_up_s]
    unfold upd
    by_cases e : i = k
    · subst e; exact if_pos rfl
    · rw [if_neg (by omega)]
      exact hE i (by omega) hb
