/-! counting bits -/
def pu_N (x : Int32) : Nat := x.toBitVec.toNat
theorem pu_N_and {x y : Int32} : pu_N (x &&& y) = pu_N x &&& pu_N y := by
  show (x.toBitVec &&& y.toBitVec).toNat = _
  exact BitVec.toNat_and ..
theorem pu_N_add {x y : Int32} : pu_N (x + y) = (pu_N x + pu_N y) % 4294967296 := by
  show (x.toBitVec + y.toBitVec).toNat = _
  exact BitVec.toNat_add ..
theorem pu_N_sub {x y : Int32} : pu_N (x - y) = (4294967296 - pu_N y + pu_N x) % 4294967296 := by
  show (x.toBitVec - y.toBitVec).toNat = _
  exact BitVec.toNat_sub ..
theorem pu_N_lt {x : Int32} : pu_N x < 4294967296 := x.toBitVec.isLt
theorem pu_N_ofNat {x : Int32} {k : Nat} (h : pu_N x = k) : x = Int32.ofNat k := by
  rw [← Int32.toBitVec_inj]
  show x.toBitVec = BitVec.ofNat 32 k
  apply BitVec.eq_of_toNat_eq
  rw [BitVec.toNat_ofNat]
  have := pu_N_lt (x := x)
  unfold pu_N at h this
  omega
theorem pu_N_shr {x : Int32} {k : Nat} (hk : k < 32) : pu_N (Int32.toUInt32 x >>> (Int32.toUInt32 (Int32.ofNat k) &&& Int32.toUInt32 31)).toInt32 = pu_N x / 2 ^ k := by
  show (x.toBitVec >>> (((BitVec.ofNat 32 k) &&& 31#32) % 32#32)).toNat = _
  have e : (((BitVec.ofNat 32 k) &&& 31#32) % 32#32).toNat = k := by
    have : ∀ k : Fin 32, (((BitVec.ofNat 32 k.val) &&& 31#32) % 32#32).toNat = k.val := by decide +kernel
    exact this ⟨k, hk⟩
  rw [BitVec.ushiftRight_eq', e, BitVec.toNat_ushiftRight, Nat.shiftRight_eq_div_pow]
  rfl
theorem pu_land2 {a b c d : Nat} (hb : b < 256) (hd : d < 256) : (b + 256 * a) &&& (d + 256 * c) = (b &&& d) + 256 * (a &&& c) := by
  have h1 : ((b + 256 * a) &&& (d + 256 * c)) % 2 ^ 8 = b &&& d := by
    rw [Nat.and_mod_two_pow]
    congr 1 <;> omega
  have h2 : ((b + 256 * a) &&& (d + 256 * c)) / 2 ^ 8 = a &&& c := by
    rw [Nat.and_div_two_pow]
    congr 1 <;> omega
  omega
theorem pu_land4 {b0 b1 b2 b3 m : Nat} (h0 : b0 < 256) (h1 : b1 < 256) (h2 : b2 < 256) (h : m < 256) : (b0 + 256 * (b1 + 256 * (b2 + 256 * b3))) &&& (m + 256 * (m + 256 * (m + 256 * m))) = (b0 &&& m) + 256 * ((b1 &&& m) + 256 * ((b2 &&& m) + 256 * (b3 &&& m))) := by
  rw [pu_land2 h0 h, pu_land2 h1 h, pu_land2 h2 h]
def pu_be (b : Nat) : Nat := (b / 2) &&& 85
def pu_bu (b : Nat) : Nat := b - pu_be b
def pu_bx (b : Nat) : Nat := (pu_bu b / 4) &&& 51
def pu_by (b : Nat) : Nat := pu_bu b &&& 51
def pu_bT (b : Nat) : Nat := pu_by b + pu_bx b
def pu_pc (b : Nat) : Nat := (pu_bT b + pu_bT b / 16) &&& 15
theorem pu_t1 {b r : Nat} (hb : b < 256) (hr : r < 2) : ((b / 2 + 128 * r) &&& 85) = pu_be b ∧ pu_be b ≤ b := by
  have h := tw_rng (n := 256) (p := fun b => (List.range 2).all fun r => decide (((b / 2 + 128 * r) &&& 85) = pu_be b ∧ pu_be b ≤ b)) (by decide +kernel) b hb
  exact of_decide_eq_true (tw_rng (n := 2) (p := fun r => decide (((b / 2 + 128 * r) &&& 85) = pu_be b ∧ pu_be b ≤ b)) h r hr)
theorem pu_t2 {b r : Nat} (hb : b < 256) (hr : r < 4) : ((pu_bu b / 4 + 64 * r) &&& 51) = pu_bx b ∧ pu_bu b < 256 ∧ pu_bT b ≤ 68 ∧ pu_bT b % 16 ≤ 4 := by
  have h := tw_rng (n := 256) (p := fun b => (List.range 4).all fun r => decide (((pu_bu b / 4 + 64 * r) &&& 51) = pu_bx b ∧ pu_bu b < 256 ∧ pu_bT b ≤ 68 ∧ pu_bT b % 16 ≤ 4)) (by decide +kernel) b hb
  exact of_decide_eq_true (tw_rng (n := 4) (p := fun r => decide (((pu_bu b / 4 + 64 * r) &&& 51) = pu_bx b ∧ pu_bu b < 256 ∧ pu_bT b ≤ 68 ∧ pu_bT b % 16 ≤ 4)) h r hr)
theorem pu_t3 {b r : Nat} (hb : b < 256) (hr : r < 5) : ((pu_bT b + pu_bT b / 16 + 16 * r) &&& 15) = pu_pc b ∧ pu_pc b ≤ 8 := by
  have h := tw_rng (n := 256) (p := fun b => (List.range 5).all fun r => decide (((pu_bT b + pu_bT b / 16 + 16 * r) &&& 15) = pu_pc b ∧ pu_pc b ≤ 8)) (by decide +kernel) b hb
  exact of_decide_eq_true (tw_rng (n := 5) (p := fun r => decide (((pu_bT b + pu_bT b / 16 + 16 * r) &&& 15) = pu_pc b ∧ pu_pc b ≤ 8)) h r hr)
theorem pu_t4 {b : Nat} (hb : b < 256) : pu_pc b = pu_sum (fun i => b.testBit i) 8 := of_decide_eq_true (tw_rng (n := 256) (p := fun b => decide (pu_pc b = pu_sum (fun i => b.testBit i) 8)) (by decide +kernel) b hb)
theorem pu_N4 (X : Nat) (h : X < 4294967296) : ∃ b0 b1 b2 b3, X = b0 + 256 * (b1 + 256 * (b2 + 256 * b3)) ∧ b0 < 256 ∧ b1 < 256 ∧ b2 < 256 ∧ b3 < 256 := ⟨X % 256, X / 256 % 256, X / 65536 % 256, X / 16777216, by omega, by omega, by omega, by omega, by omega⟩
theorem pu_bitCount {x : Int32} {b0 b1 b2 b3 : Nat} {σ : tw_Sg} (hX : pu_N x = b0 + 256 * (b1 + 256 * (b2 + 256 * b3))) (h0 : b0 < 256) (h1 : b1 < 256) (h2 : b2 < 256) (h3 : b3 < 256) : tw_P_J6_bitCount_0f7a4 x σ = some (Int32.ofNat (pu_pc b0 + pu_pc b1 + pu_pc b2 + pu_pc b3)) := by
  unfold tw_P_J6_bitCount_0f7a4
  dsimp only [tw_lt]
  congr 1
  apply pu_N_ofNat
  have s1 : ∀ y : Int32, pu_N (Int32.toUInt32 y >>> (Int32.toUInt32 (1 : Int32) &&& Int32.toUInt32 31)).toInt32 = pu_N y / 2 := fun y => pu_N_shr (k := 1) (by decide)
  have s2 : ∀ y : Int32, pu_N (Int32.toUInt32 y >>> (Int32.toUInt32 (2 : Int32) &&& Int32.toUInt32 31)).toInt32 = pu_N y / 4 := fun y => pu_N_shr (k := 2) (by decide)
  have s4 : ∀ y : Int32, pu_N (Int32.toUInt32 y >>> (Int32.toUInt32 (4 : Int32) &&& Int32.toUInt32 31)).toInt32 = pu_N y / 16 := fun y => pu_N_shr (k := 4) (by decide)
  have s8 : ∀ y : Int32, pu_N (Int32.toUInt32 y >>> (Int32.toUInt32 (8 : Int32) &&& Int32.toUInt32 31)).toInt32 = pu_N y / 256 := fun y => pu_N_shr (k := 8) (by decide)
  have s16 : ∀ y : Int32, pu_N (Int32.toUInt32 y >>> (Int32.toUInt32 (16 : Int32) &&& Int32.toUInt32 31)).toInt32 = pu_N y / 65536 := fun y => pu_N_shr (k := 16) (by decide)
  -- the first step
  have e1 : pu_N (x - ((Int32.toUInt32 x >>> (Int32.toUInt32 (1 : Int32) &&& Int32.toUInt32 31)).toInt32 &&& (1431655765 : Int32))) = pu_bu b0 + 256 * (pu_bu b1 + 256 * (pu_bu b2 + 256 * pu_bu b3)) := by
    rw [pu_N_sub, pu_N_and, s1, hX, show pu_N (1431655765 : Int32) = 85 + 256 * (85 + 256 * (85 + 256 * 85)) from by decide +kernel, show (b0 + 256 * (b1 + 256 * (b2 + 256 * b3))) / 2 = (b0 / 2 + 128 * (b1 % 2)) + 256 * ((b1 / 2 + 128 * (b2 % 2)) + 256 * ((b2 / 2 + 128 * (b3 % 2)) + 256 * (b3 / 2 + 128 * 0))) from by omega, pu_land4 (by omega) (by omega) (by omega) (by decide)]
    obtain ⟨x0, y0⟩ := pu_t1 h0 (show b1 % 2 < 2 by omega)
    obtain ⟨x1, y1⟩ := pu_t1 h1 (show b2 % 2 < 2 by omega)
    obtain ⟨x2, y2⟩ := pu_t1 h2 (show b3 % 2 < 2 by omega)
    obtain ⟨x3, y3⟩ := pu_t1 h3 (show 0 < 2 by omega)
    rw [x0, x1, x2, x3]
    unfold pu_bu
    omega
  generalize x - ((Int32.toUInt32 x >>> (Int32.toUInt32 (1 : Int32) &&& Int32.toUInt32 31)).toInt32 &&& (1431655765 : Int32)) = v1 at e1
  have e2 : pu_N ((v1 &&& (858993459 : Int32)) + ((Int32.toUInt32 v1 >>> (Int32.toUInt32 (2 : Int32) &&& Int32.toUInt32 31)).toInt32 &&& (858993459 : Int32))) = pu_bT b0 + 256 * (pu_bT b1 + 256 * (pu_bT b2 + 256 * pu_bT b3)) := by
    obtain ⟨x0, y0, z0, -⟩ := pu_t2 h0 (show pu_bu b1 % 4 < 4 by omega)
    obtain ⟨x1, y1, z1, -⟩ := pu_t2 h1 (show pu_bu b2 % 4 < 4 by omega)
    obtain ⟨x2, y2, z2, -⟩ := pu_t2 h2 (show pu_bu b3 % 4 < 4 by omega)
    obtain ⟨x3, y3, z3, -⟩ := pu_t2 h3 (show 0 < 4 by omega)
    rw [pu_N_add, pu_N_and, pu_N_and, s2, e1, show pu_N (858993459 : Int32) = 51 + 256 * (51 + 256 * (51 + 256 * 51)) from by decide +kernel, pu_land4 y0 y1 y2 (by decide), show (pu_bu b0 + 256 * (pu_bu b1 + 256 * (pu_bu b2 + 256 * pu_bu b3))) / 4 = (pu_bu b0 / 4 + 64 * (pu_bu b1 % 4)) + 256 * ((pu_bu b1 / 4 + 64 * (pu_bu b2 % 4)) + 256 * ((pu_bu b2 / 4 + 64 * (pu_bu b3 % 4)) + 256 * (pu_bu b3 / 4 + 64 * 0))) from by omega, pu_land4 (by omega) (by omega) (by omega) (by decide), x0, x1, x2, x3]
    unfold pu_bT at z0 z1 z2 z3 ⊢
    unfold pu_by at z0 z1 z2 z3 ⊢
    omega
  generalize (v1 &&& (858993459 : Int32)) + ((Int32.toUInt32 v1 >>> (Int32.toUInt32 (2 : Int32) &&& Int32.toUInt32 31)).toInt32 &&& (858993459 : Int32)) = v2 at e2
  have p0 := (pu_t3 h0 (show 0 < 5 by decide)).2
  have p1 := (pu_t3 h1 (show 0 < 5 by decide)).2
  have p2 := (pu_t3 h2 (show 0 < 5 by decide)).2
  have p3 := (pu_t3 h3 (show 0 < 5 by decide)).2
  have e3 : pu_N ((v2 + (Int32.toUInt32 v2 >>> (Int32.toUInt32 (4 : Int32) &&& Int32.toUInt32 31)).toInt32) &&& (252645135 : Int32)) = pu_pc b0 + 256 * (pu_pc b1 + 256 * (pu_pc b2 + 256 * pu_pc b3)) := by
    obtain ⟨-, -, z0, w0⟩ := pu_t2 h0 (show 0 < 4 by omega)
    obtain ⟨-, -, z1, w1⟩ := pu_t2 h1 (show 0 < 4 by omega)
    obtain ⟨-, -, z2, w2⟩ := pu_t2 h2 (show 0 < 4 by omega)
    obtain ⟨-, -, z3, w3⟩ := pu_t2 h3 (show 0 < 4 by omega)
    rw [pu_N_and, pu_N_add, s4, e2, show pu_N (252645135 : Int32) = 15 + 256 * (15 + 256 * (15 + 256 * 15)) from by decide +kernel, show ((pu_bT b0 + 256 * (pu_bT b1 + 256 * (pu_bT b2 + 256 * pu_bT b3))) + (pu_bT b0 + 256 * (pu_bT b1 + 256 * (pu_bT b2 + 256 * pu_bT b3))) / 16) % 4294967296 = (pu_bT b0 + pu_bT b0 / 16 + 16 * (pu_bT b1 % 16)) + 256 * ((pu_bT b1 + pu_bT b1 / 16 + 16 * (pu_bT b2 % 16)) + 256 * ((pu_bT b2 + pu_bT b2 / 16 + 16 * (pu_bT b3 % 16)) + 256 * (pu_bT b3 + pu_bT b3 / 16 + 16 * 0))) from by omega, pu_land4 (by omega) (by omega) (by omega) (by decide), (pu_t3 h0 (show pu_bT b1 % 16 < 5 by omega)).1, (pu_t3 h1 (show pu_bT b2 % 16 < 5 by omega)).1, (pu_t3 h2 (show pu_bT b3 % 16 < 5 by omega)).1, (pu_t3 h3 (show 0 < 5 by omega)).1]
  generalize (v2 + (Int32.toUInt32 v2 >>> (Int32.toUInt32 (4 : Int32) &&& Int32.toUInt32 31)).toInt32) &&& (252645135 : Int32) = v3 at e3
  rw [pu_N_and, show pu_N (63 : Int32) = 2 ^ 6 - 1 from by decide +kernel, Nat.and_two_pow_sub_one_eq_mod, pu_N_add, s16, pu_N_add, s8, e3]
  clear e1 e2 e3
  generalize pu_pc b0 = q0 at p0 ⊢
  generalize pu_pc b1 = q1 at p1 ⊢
  generalize pu_pc b2 = q2 at p2 ⊢
  generalize pu_pc b3 = q3 at p3 ⊢
  have d1 : (q0 + 256 * (q1 + 256 * (q2 + 256 * q3))) / 256 = q1 + 256 * (q2 + 256 * q3) := by omega
  rw [d1]
  have d2 : (q0 + 256 * (q1 + 256 * (q2 + 256 * q3)) + (q1 + 256 * (q2 + 256 * q3))) % 4294967296 = (q0 + q1) + 256 * ((q1 + q2) + 256 * ((q2 + q3) + 256 * q3)) := by omega
  rw [d2]
  have d3 : ((q0 + q1) + 256 * ((q1 + q2) + 256 * ((q2 + q3) + 256 * q3))) / 65536 = (q2 + q3) + 256 * q3 := by omega
  rw [d3]
  have d4 : ((q0 + q1) + 256 * ((q1 + q2) + 256 * ((q2 + q3) + 256 * q3)) + ((q2 + q3) + 256 * q3)) % 4294967296 = (q0 + q1 + q2 + q3) + 256 * ((q1 + q2 + q3) + 256 * ((q2 + q3) + 256 * q3)) := by omega
  rw [d4]
  omega
theorem pu_sum_add {p : Nat → Bool} {m : Nat} : ∀ k, pu_sum p (m + k) = pu_sum p m + pu_sum (fun i => p (m + i)) k
  | 0 => rfl
  | k + 1 => by
    rw [← Nat.add_assoc, pu_sum_S, pu_sum_S, pu_sum_add k, Nat.add_assoc]
theorem pu_sum_cong {p q : Nat → Bool} {m : Nat} (h : ∀ i, i < m → p i = q i) : pu_sum p m = pu_sum q m := by
  induction m with
  | zero => rfl
  | succ m ih => rw [pu_sum_S, pu_sum_S, ih (fun i hi => h i (by omega)), h m (by omega)]
theorem pu_bitCount_sum {x : Int32} {σ : tw_Sg} : tw_P_J6_bitCount_0f7a4 x σ = some (Int32.ofNat (pu_sum (fun i => x.toBitVec.getLsbD i) 32)) := by
  obtain ⟨b0, b1, b2, b3, hX, h0, h1, h2, h3⟩ := pu_N4 (pu_N x) pu_N_lt
  rw [pu_bitCount hX h0 h1 h2 h3]
  congr 2
  have hb : ∀ i, x.toBitVec.getLsbD i = (pu_N x).testBit i := fun i => rfl
  have hd : ∀ (k i : Nat) (b : Nat), i < 8 → pu_N x / 2 ^ k % 2 ^ 8 = b → x.toBitVec.getLsbD (k + i) = b.testBit i := fun k i b hi e => by
    rw [hb, ← e, Nat.testBit_mod_two_pow, decide_eq_true hi, Bool.true_and, Nat.testBit_div_two_pow, Nat.add_comm]
  show _ = pu_sum (fun i => x.toBitVec.getLsbD i) (8 + 8 + 8 + 8)
  rw [pu_sum_add, pu_sum_add, pu_sum_add, pu_t4 h0, pu_t4 h1, pu_t4 h2, pu_t4 h3]
  congr 1
  · congr 1
    · congr 1
      · exact pu_sum_cong (fun i hi => by have := hd 0 i b0 hi (by omega); rw [Nat.zero_add] at this; exact this.symm)
      · exact pu_sum_cong (fun i hi => (hd 8 i b1 hi (by omega)).symm)
    · exact pu_sum_cong (fun i hi => (hd 16 i b2 hi (by omega)).symm)
  · exact pu_sum_cong (fun i hi => (hd 24 i b3 hi (by omega)).symm)
/-- counting along a rising way -/
theorem pu_sum_map {bt p : Nat → Bool} {f : Nat → Nat} : ∀ (N m : Nat), (∀ c, c < m → f c < N) → (∀ c, c < m → bt (f c) = p c) → (∀ s, s < N → (∀ c, c < m → s ≠ f c) → bt s = false) → (∀ c c', c < c' → c' < m → f c < f c') → pu_sum bt N = pu_sum p m
  | 0, m, h1, _, _, _ => by
    cases m with
    | zero => rfl
    | succ m => exact absurd (h1 m (by omega)) (Nat.not_lt_zero _)
  | N + 1, 0, h1, h2, h3, h4 => by
    rw [pu_sum_S, h3 N (by omega) (fun c z => absurd z (Nat.not_lt_zero _))]
    exact pu_sum_map N 0 (fun c z => absurd z (Nat.not_lt_zero _)) h2 (fun s hs => h3 s (by omega)) h4
  | N + 1, m + 1, h1, h2, h3, h4 => by
    rw [pu_sum_S]
    by_cases e : f m = N
    · rw [pu_sum_S, ← h2 m (by omega), e]
      congr 1
      refine pu_sum_map N m (fun c hc => by have := h4 c m hc (by omega); omega) (fun c hc => h2 c (by omega)) (fun s hs hx => h3 s (by omega) (fun c hc => ?_)) (fun c c' x y => h4 c c' x (by omega))
      by_cases e2 : c = m
      · subst e2; omega
      · exact hx c (by omega)
    · have hm := h1 m (by omega)
      have hall : ∀ c, c < m + 1 → f c < N := fun c hc => by
        by_cases e2 : c = m
        · subst e2; omega
        · have := h4 c m (by omega) (by omega); omega
      rw [h3 N (by omega) (fun c hc => by have := hall c hc; omega)]
      exact pu_sum_map N (m + 1) hall h2 (fun s hs => h3 s (by omega)) h4
theorem pu_sp_mono {w h c c' : Nat} (hw : w ≤ 20) (hc : c < c') (hc' : c' < w * h) : pu_sp w c < pu_sp w c' := by
  obtain ⟨w0, x1, x2, x3⟩ := pu_cell hc'
  obtain ⟨-, y1, y2, y3⟩ := pu_cell (show c < w * h by omega)
  have hd : c / w ≤ c' / w := Nat.div_le_div_right (by omega)
  unfold pu_sp
  by_cases e : c / w = c' / w
  · rw [e] at y3 ⊢; omega
  · omega
theorem pu_set_sum {σ : tw_Sg} {A w h : Nat} {p : Nat → Bool} (hw : w ≤ 20) (hh : h ≤ 20) (hS : pu_set σ A w (w * h) p) : pu_sum (fun s => pu_bt σ A s) 704 = pu_sum p (w * h) :=
  pu_sum_map 704 (w * h) (fun c hc => by have := pu_sp_rng hw hh hc; omega) hS.1 hS.2 (fun c c' x y => pu_sp_mono hw x y)
theorem pu_ccount {σ : tw_Sg} {th w h n : Nat} {p : Nat → Bool} (hk : tw_kd th = 0) (hw : w ≤ 20) (hh : h ≤ 20) (hS : pu_set σ (th + 1) w (w * h) p) (hn : 30 < n) : tw_P_X0_count n th σ = some (Int32.ofNat (pu_sum p (w * h))) := by
  rw [← pu_set_sum hw hh hS]
  have key : pu_wp (tw_P_X0_count n th σ) (fun v => v = Int32.ofNat (pu_sum (fun s => pu_bt σ (th + 1) s) 704)) := by
    unfold tw_P_X0_count
    rw [pu_l22 hk]
    refine pu_lt (pu_lt (pu_lt ?_))
    refine pu_lp (J := fun s => ∃ i, i ≤ 22 ∧ s.2 = Int32.ofNat i ∧ s.1 = Int32.ofNat (pu_sum (fun s => pu_bt σ (th + 1) s) (32 * i))) (m := fun s => 22 - s.2.toNatClampNeg) ?_ n _ (by show 22 - _ < n; omega) ⟨0, by omega, rfl, rfl⟩
    rintro k5 ⟨tt, ii⟩ ⟨i, hi, e1, e2⟩ hk5
    dsimp only [] at e1 e2
    subst e1; subst e2
    dsimp only []
    refine pu_if (fun hc => ?_) (fun hc => ?_)
    · have hc := (pu_le (by omega) (by omega)).mp hc
      have : i = 22 := by omega
      subst this
      exact pu_some rfl
    · have hc : i < 22 := by rw [pu_le (by omega) (by omega)] at hc; omega
      refine pu_ck (pu_ok (by omega) hc) (pu_lt ?_)
      refine pu_bde pu_bitCount_sum (pu_lt (pu_lt ?_))
      have em : Int32.ofNat i + (1 : Int32) = Int32.ofNat (i + 1) := pu_add i 1
      rw [em, pu_add, pu_n (show i < 2147483648 by omega)]
      refine hk5 _ ⟨i + 1, by omega, rfl, ?_⟩ ?_
      · show Int32.ofNat _ = Int32.ofNat _
        rw [Nat.mul_add, Nat.mul_one, pu_sum_add]
        congr 2
        refine pu_sum_cong (fun j hj => ?_)
        show _ = pu_bt σ (th + 1) (32 * i + j)
        unfold pu_bt
        rw [show (32 * i + j) / 32 = i from by omega, show (32 * i + j) % 32 = j from by omega]
      · show 22 - (Int32.ofNat (i + 1)).toNatClampNeg < 22 - (Int32.ofNat i).toNatClampNeg
        rw [pu_n (by omega), pu_n (by omega)]
        omega
  obtain ⟨r, h1, h2⟩ := key
  rw [h1, h2]
