/-! sets of spots: the bit s of the rows in the cell A -/
def pu_bt (σ : tw_Sg) (A s : Nat) : Bool := (σ A (s / 32)).toBitVec.getLsbD (s % 32)
def pu_fr (S : Nat → Prop) (σ σ' : tw_Sg) : Prop := ∀ k, ¬ S k → σ' k = σ k
theorem pu_fr_refl {S : Nat → Prop} {σ : tw_Sg} : pu_fr S σ σ := fun _ _ => rfl
theorem pu_fr_trans {S : Nat → Prop} {σ σ' σ'' : tw_Sg} (h : pu_fr S σ σ') (h' : pu_fr S σ' σ'') : pu_fr S σ σ'' := fun k hk => (h' k hk).trans (h k hk)
theorem pu_fr_mono {S T : Nat → Prop} {σ σ' : tw_Sg} (h : pu_fr S σ σ') (hs : ∀ k, S k → T k) : pu_fr T σ σ' := fun k hk => h k (fun h1 => hk (hs k h1))
theorem pu_fr_up {S : Nat → Prop} {σ : tw_Sg} {k i : Nat} {x : Int32} (h : S k) : pu_fr S σ (tw_up σ k i x) := fun a ha => tw_up_n (fun e => ha (e ▸ h))
theorem pu_fr_upA {S : Nat → Prop} {σ : tw_Sg} {k : Nat} {f : Nat → Int32} (h : S k) : pu_fr S σ (tw_upA σ k f) := fun a ha => tw_upA_n (fun e => ha (e ▸ h))
theorem pu_bt_cong {σ σ' : tw_Sg} {A s : Nat} (h : σ' A = σ A) : pu_bt σ' A s = pu_bt σ A s := by unfold pu_bt; rw [h]
theorem pu_l22 {th : Nat} (h : tw_kd th = 0) : tw_ln (th + 1) = 22 := tw_ln0_1 h
theorem pu_sh5 {s : Nat} (h : s < 2147483648) : Int32.ofNat s >>> ((5 : Int32) &&& 31) = Int32.ofNat (s / 32) := pu_shr h (by decide)
theorem pu_has {σ : tw_Sg} {th s : Nat} (hk : tw_kd th = 0) (hs : s < 704) : tw_P_X0_has th (Int32.ofNat s) σ = some (if pu_bt σ (th + 1) s then 1 else 0) := by
  have hq : s / 32 < 22 := by omega
  dsimp only [tw_P_X0_has, tw_lt, tw_jn]
  rw [pu_sh5 (by omega), pu_l22 hk, if_neg (pu_nn (by omega)), if_neg (by rw [pu_le (by omega) (by omega)]; omega), pu_ok (by omega) hq, pu_n (by omega)]
  show (if ¬ _ then tw_ck (tw_01 0) (some 0) else tw_ck (tw_01 1) (some 1)) = _
  have hb := pu_bit (x := σ (th + 1) (s / 32)) (s := s) (by omega)
  unfold pu_bt
  by_cases h : (σ (th + 1) (s / 32)).toBitVec.getLsbD (s % 32) = true
  · rw [if_neg (by rw [hb]; exact not_not_intro h), if_pos h]; rfl
  · rw [if_pos (by rw [hb]; exact h), if_neg h]; rfl
theorem pu_ge {x y : Int32} (h : ¬ x ≤ y) : y < x := Int32.not_le.mp h
theorem pu_ok_of {x : Int32} {n : Nat} (hn : n < 2147483648) (h0 : ¬ x < 0) (h1 : ¬ Int32.ofNat n ≤ x) : tw_ok x n = true := by
  obtain ⟨a, ha, rfl⟩ := pu_nat h0
  rw [pu_le hn ha] at h1
  exact pu_ok ha (by omega)
/-- for any number at all -/
theorem pu_has_any {σ : tw_Sg} {th : Nat} {x : Int32} (hk : tw_kd th = 0) : ∃ b : Bool, tw_P_X0_has th x σ = some (if b then 1 else 0) := by
  dsimp only [tw_P_X0_has, tw_lt, tw_jn]
  rw [pu_l22 hk]
  by_cases h0 : x >>> ((5 : Int32) &&& 31) < 0
  · rw [if_pos h0]; exact ⟨false, rfl⟩
  · rw [if_neg h0]
    by_cases h1 : Int32.ofNat 22 ≤ x >>> ((5 : Int32) &&& 31)
    · rw [if_pos h1]; exact ⟨false, rfl⟩
    · rw [if_neg h1, pu_ok_of (by decide) h0 h1]
      show ∃ b : Bool, (if ¬ _ then tw_ck (tw_01 0) (some 0) else tw_ck (tw_01 1) (some 1)) = _
      by_cases h2 : (Int32.toUInt32 (σ (th + 1) (Int32.toNatClampNeg (x >>> ((5 : Int32) &&& 31)))) >>> (Int32.toUInt32 (x &&& (31 : Int32)) &&& Int32.toUInt32 31)).toInt32 &&& (1 : Int32) = (1 : Int32)
      · rw [if_neg (not_not_intro h2)]; exact ⟨true, rfl⟩
      · rw [if_pos h2]; exact ⟨false, rfl⟩
def pu_addb (σ : tw_Sg) (A s : Nat) : tw_Sg := tw_up σ A (s / 32) (σ A (s / 32) ||| ((1 : Int32) <<< ((Int32.ofNat s &&& (31 : Int32)) &&& 31)))
def pu_remb (σ : tw_Sg) (A s : Nat) : tw_Sg := tw_up σ A (s / 32) (σ A (s / 32) &&& (((1 : Int32) <<< ((Int32.ofNat s &&& (31 : Int32)) &&& 31)) ^^^ (-1 : Int32)))
theorem pu_add_eq {σ : tw_Sg} {th s : Nat} (hk : tw_kd th = 0) (hs : s < 704) : tw_P_X0_add th (Int32.ofNat s) σ = some (pu_addb σ (th + 1) s) := by
  have hq : s / 32 < 22 := by omega
  dsimp only [tw_P_X0_add, tw_lt, tw_jn]
  rw [pu_sh5 (by omega), pu_l22 hk, if_neg (pu_nn (by omega)), if_neg (by rw [pu_le (by omega) (by omega)]; omega), pu_ok (by omega) hq, pu_n (by omega)]
  rfl
theorem pu_rem_eq {σ : tw_Sg} {th s : Nat} (hk : tw_kd th = 0) (hs : s < 704) : tw_P_X0_remove th (Int32.ofNat s) σ = some (pu_remb σ (th + 1) s) := by
  have hq : s / 32 < 22 := by omega
  dsimp only [tw_P_X0_remove, tw_lt, tw_jn]
  rw [pu_sh5 (by omega), pu_l22 hk, if_neg (pu_nn (by omega)), if_neg (by rw [pu_le (by omega) (by omega)]; omega), pu_ok (by omega) hq, pu_n (by omega)]
  rfl
theorem pu_addb_bt {σ : tw_Sg} {A s t : Nat} (hs : s < 704) : pu_bt (pu_addb σ A s) A t = (decide (t = s) || pu_bt σ A t) := by
  unfold pu_bt pu_addb
  rw [tw_up_s]
  unfold upd
  by_cases h : t / 32 = s / 32
  · rw [if_pos h, h]
    show (BitVec.getLsbD ((σ A (s / 32)).toBitVec ||| ((1 : Int32) <<< ((Int32.ofNat s &&& (31 : Int32)) &&& 31)).toBitVec) (t % 32)) = _
    rw [pu_shlbit (by omega), BitVec.getLsbD_or, BitVec.getLsbD_twoPow, Bool.or_comm]
    congr 1
    have h2 : (t = s) ↔ (s % 32 = t % 32) := by omega
    by_cases h3 : s % 32 = t % 32
    · rw [decide_eq_true h3, decide_eq_true (h2.mpr h3), decide_eq_true (by omega)]; rfl
    · rw [decide_eq_false h3, decide_eq_false (fun e => h3 (h2.mp e)), Bool.and_false]
  · rw [if_neg h, decide_eq_false (by omega), Bool.false_or]
theorem pu_remb_bt {σ : tw_Sg} {A s t : Nat} (hs : s < 704) : pu_bt (pu_remb σ A s) A t = (!decide (t = s) && pu_bt σ A t) := by
  unfold pu_bt pu_remb
  rw [tw_up_s]
  unfold upd
  by_cases h : t / 32 = s / 32
  · rw [if_pos h, h]
    show (BitVec.getLsbD ((σ A (s / 32)).toBitVec &&& (((1 : Int32) <<< ((Int32.ofNat s &&& (31 : Int32)) &&& 31)).toBitVec ^^^ BitVec.allOnes 32)) (t % 32)) = _
    have hl : t % 32 < 32 := Nat.mod_lt _ (by decide)
    rw [pu_shlbit (by omega), BitVec.getLsbD_and, BitVec.getLsbD_xor, BitVec.getLsbD_twoPow, BitVec.getLsbD_allOnes, Bool.and_comm]
    congr 1
    have h2 : (t = s) ↔ (s % 32 = t % 32) := by omega
    by_cases h3 : s % 32 = t % 32
    · rw [decide_eq_true h3, decide_eq_true (h2.mpr h3), decide_eq_true hl, decide_eq_true (show s % 32 < 32 from Nat.mod_lt _ (by decide))]; rfl
    · rw [decide_eq_false h3, decide_eq_false (fun e => h3 (h2.mp e)), Bool.and_false, decide_eq_true hl]; rfl
  · rw [if_neg h, decide_eq_false (by omega)]
    rfl
theorem pu_addb_n {σ : tw_Sg} {A s k : Nat} (h : k ≠ A) : pu_addb σ A s k = σ k := tw_up_n h
theorem pu_remb_n {σ : tw_Sg} {A s k : Nat} (h : k ≠ A) : pu_remb σ A s k = σ k := tw_up_n h
/-- any number at all: only the rows of the set change -/
theorem pu_add_any {σ : tw_Sg} {th : Nat} {x : Int32} (hk : tw_kd th = 0) : ∃ σ', tw_P_X0_add th x σ = some σ' ∧ pu_fr (fun k => k = th + 1) σ σ' := by
  dsimp only [tw_P_X0_add, tw_lt, tw_jn]
  rw [pu_l22 hk]
  by_cases h0 : x >>> ((5 : Int32) &&& 31) < 0
  · rw [if_pos h0]; exact ⟨_, rfl, pu_fr_refl⟩
  · rw [if_neg h0]
    by_cases h1 : Int32.ofNat 22 ≤ x >>> ((5 : Int32) &&& 31)
    · rw [if_pos h1]; exact ⟨_, rfl, pu_fr_refl⟩
    · rw [if_neg h1, pu_ok_of (by decide) h0 h1]
      exact ⟨_, rfl, pu_fr_up rfl⟩
theorem pu_rem_any {σ : tw_Sg} {th : Nat} {x : Int32} (hk : tw_kd th = 0) : ∃ σ', tw_P_X0_remove th x σ = some σ' ∧ pu_fr (fun k => k = th + 1) σ σ' := by
  dsimp only [tw_P_X0_remove, tw_lt, tw_jn]
  rw [pu_l22 hk]
  by_cases h0 : x >>> ((5 : Int32) &&& 31) < 0
  · rw [if_pos h0]; exact ⟨_, rfl, pu_fr_refl⟩
  · rw [if_neg h0]
    by_cases h1 : Int32.ofNat 22 ≤ x >>> ((5 : Int32) &&& 31)
    · rw [if_pos h1]; exact ⟨_, rfl, pu_fr_refl⟩
    · rw [if_neg h1, pu_ok_of (by decide) h0 h1]
      exact ⟨_, rfl, pu_fr_up rfl⟩
/-! filling an array -/
def pu_fill (σ : tw_Sg) (A : Nat) (x : Int32) : tw_Sg := tw_upA σ A (fun j => if j < tw_ln A then x else σ A j)
theorem pu_fillstep {σ : tw_Sg} {A i : Nat} {x : Int32} : tw_up (tw_upA σ A (fun j => if j < i then x else σ A j)) A i x = tw_upA σ A (fun j => if j < i + 1 then x else σ A j) := by
  rw [tw_up_A]
  funext a
  by_cases h : a = A
  · subst h
    rw [tw_upA_s, tw_upA_s, tw_upA_s]
    funext j
    unfold upd
    by_cases h1 : j = i
    · subst h1; rw [if_pos rfl, if_pos (Nat.lt_succ_self _)]
    · rw [if_neg h1]
      show (if j < i then x else σ a j) = _
      by_cases h2 : j < i
      · rw [if_pos h2, if_pos (by omega)]
      · rw [if_neg h2, if_neg (by omega)]
  · rw [tw_upA_n h, tw_upA_n h, tw_upA_n h]
theorem pu_upA_id {σ : tw_Sg} {A : Nat} {f : Nat → Int32} (h : ∀ j, f j = σ A j) : tw_upA σ A f = σ := by
  funext a
  by_cases e : a = A
  · subst e; rw [tw_upA_s]; funext j; exact h j
  · exact tw_upA_n e
theorem pu_jfill {σ : tw_Sg} {A n : Nat} {x : Int32} (hl : tw_ln A < 100000) (hn : tw_ln A < n) : tw_P_J7_fill_53178 n A x σ = some (pu_fill σ A x) := by
  unfold tw_P_J7_fill_53178 tw_lt
  have h := pu_for (body := fun (k4 : (Int32 × tw_Sg) → Option (tw_Sg)) (a3 : Int32 × tw_Sg) => if Int32.ofNat (tw_ln A) ≤ a3.1 then (some a3.2) else (tw_ck (tw_ok a3.1 (tw_ln A)) (tw_lt (tw_up a3.2 A (Int32.toNatClampNeg a3.1) x) (fun (σ5 : tw_Sg) => tw_lt (a3.1 + (1 : Int32)) (fun (v6 : Int32) => k4 (v6, σ5)))))) (tw_ln A) (fun i => (Int32.ofNat i, tw_upA σ A (fun j => if j < i then x else σ A j))) (fun k i hi => ?_) (r := pu_fill σ A x) (fun k => ?_) hn
  · refine Eq.trans ?_ h
    show tw_lp _ n ((0 : Int32), σ) = tw_lp _ n (Int32.ofNat 0, _)
    rw [pu_upA_id (σ := σ) (fun j => if_neg (Nat.not_lt_zero j))]
    rfl
  · show (if Int32.ofNat (tw_ln A) ≤ Int32.ofNat i then _ else _) = _
    rw [if_neg (by rw [pu_le (by omega) (by omega)]; omega)]
    show tw_ck (tw_ok (Int32.ofNat i) (tw_ln A)) (k (Int32.ofNat i + 1, tw_up _ A (Int32.toNatClampNeg (Int32.ofNat i)) x)) = _
    rw [pu_ok (by omega) hi, pu_n (by omega), pu_fillstep]
    show k (Int32.ofNat i + Int32.ofNat 1, _) = _
    rw [pu_add]
  · show (if Int32.ofNat (tw_ln A) ≤ Int32.ofNat (tw_ln A) then _ else _) = _
    rw [if_pos ((pu_le (by omega) (by omega)).mpr (Nat.le_refl _))]
    rfl
theorem pu_clear {σ : tw_Sg} {th n : Nat} (hk : tw_kd th = 0) (hn : 22 < n) : tw_P_X0_clear n th σ = some (pu_fill σ (th + 1) 0) := by
  have hl := pu_l22 hk
  dsimp only [tw_P_X0_clear]
  rw [pu_jfill (by omega) (by omega)]
  rfl
theorem pu_rfill {σ : tw_Sg} {th n : Nat} {x : Int32} (hl : tw_ln (th + 1) < 100000) (hn : tw_ln (th + 1) < n) : tw_P_X7_fill n th x σ = some (pu_fill σ (th + 1) x) := by
  dsimp only [tw_P_X7_fill]
  rw [pu_jfill hl hn]
  rfl
theorem pu_fill_n {σ : tw_Sg} {A k : Nat} {x : Int32} (h : k ≠ A) : pu_fill σ A x k = σ k := tw_upA_n h
theorem pu_fill_s {σ : tw_Sg} {A i : Nat} {x : Int32} (h : i < tw_ln A) : pu_fill σ A x A i = x := by
  unfold pu_fill
  rw [tw_upA_s, if_pos h]
theorem pu_bt_clear {σ : tw_Sg} {A s : Nat} (hl : tw_ln A = 22) (hs : s < 704) : pu_bt (pu_fill σ A 0) A s = false := by
  unfold pu_bt
  rw [pu_fill_s (by omega)]
  exact BitVec.getLsbD_zero
/-! rows of numbers -/
theorem pu_get {σ : tw_Sg} {th i N : Nat} (hl : tw_ln (th + 1) = N) (hN : N < 100000) (hi : i < N) : tw_P_X7_get th (Int32.ofNat i) σ = some (σ (th + 1) i) := by
  dsimp only [tw_P_X7_get, tw_jn]
  rw [hl, if_neg (pu_nn (by omega)), if_neg (by rw [pu_le (by omega) (by omega)]; omega), pu_ok (by omega) hi, pu_n (by omega)]
  rfl
theorem pu_get_any {σ : tw_Sg} {th : Nat} {x : Int32} (hl : tw_ln (th + 1) < 100000) : ∃ v, tw_P_X7_get th x σ = some v := by
  dsimp only [tw_P_X7_get, tw_jn]
  by_cases h0 : x < 0
  · rw [if_pos h0]; exact ⟨_, rfl⟩
  · rw [if_neg h0]
    by_cases h1 : Int32.ofNat (tw_ln (th + 1)) ≤ x
    · rw [if_pos h1]; exact ⟨_, rfl⟩
    · rw [if_neg h1, pu_ok_of (by omega) h0 h1]; exact ⟨_, rfl⟩
theorem pu_put {σ : tw_Sg} {th i N : Nat} {v : Int32} (hl : tw_ln (th + 1) = N) (hN : N < 100000) (hi : i < N) : tw_P_X7_put th (Int32.ofNat i) v σ = some (tw_up σ (th + 1) i v) := by
  dsimp only [tw_P_X7_put, tw_jn]
  rw [hl, if_neg (pu_nn (by omega)), if_neg (by rw [pu_le (by omega) (by omega)]; omega), pu_ok (by omega) hi, pu_n (by omega)]
  rfl
theorem pu_put_any {σ : tw_Sg} {th : Nat} {x v : Int32} (hl : tw_ln (th + 1) < 100000) : ∃ σ', tw_P_X7_put th x v σ = some σ' ∧ pu_fr (fun k => k = th + 1) σ σ' := by
  dsimp only [tw_P_X7_put, tw_jn]
  by_cases h0 : x < 0
  · rw [if_pos h0]; exact ⟨_, rfl, pu_fr_refl⟩
  · rw [if_neg h0]
    by_cases h1 : Int32.ofNat (tw_ln (th + 1)) ≤ x
    · rw [if_pos h1]; exact ⟨_, rfl, pu_fr_refl⟩
    · rw [if_neg h1, pu_ok_of (by omega) h0 h1]; exact ⟨_, rfl, pu_fr_up rfl⟩
