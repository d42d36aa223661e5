/-! append, errorOffset -/
section APP
variable {σ : tw_Sg} {w h nb nc cn len n : Nat} {a : Nat → Int32} {hist : Nat → Nat → Int32} {buf : Nat → Nat} {err : Int32}
/-- the byte j of a word, from its top -/
def pu_byt (x : Int32) (j : Nat) : Nat := pu_N x / 2 ^ (24 - 8 * j) % 256
theorem pu_byt_lt {x : Int32} {j : Nat} : pu_byt x j < 256 := Nat.mod_lt _ (by decide)
theorem pu_and255 {x : Int32} : x &&& (255 : Int32) = Int32.ofNat (pu_N x % 256) := by
  apply pu_N_ofNat
  rw [pu_N_and]
  show pu_N x &&& (2 ^ 8 - 1) = _
  rw [Nat.and_two_pow_sub_one_eq_mod]
theorem pu_byC {x : Int32} {j : Nat} (hj : j < 4) : (Int32.toUInt32 x >>> (Int32.toUInt32 (Int32.ofNat (24 - 8 * j)) &&& Int32.toUInt32 31)).toInt32 &&& (255 : Int32) = Int32.ofNat (pu_byt x j) := by
  rw [pu_and255, pu_N_shr (by omega)]
  rfl
theorem pu_sarw {x : BitVec 32} {k : Nat} (hk : k ≤ 24) : (x.sshiftRight k) &&& 255#32 = (x >>> k) &&& 255#32 := by
  apply BitVec.eq_of_getLsbD_eq
  intro i hi
  rw [BitVec.getLsbD_and, BitVec.getLsbD_and]
  by_cases h8 : i < 8
  · congr 1
    rw [BitVec.getLsbD_sshiftRight, BitVec.getLsbD_ushiftRight, decide_eq_false (show ¬ 32 ≤ i by omega), if_pos (show k + i < 32 by omega)]
    rfl
  · have : (255#32).getLsbD i = false := by
      have h := Nat.testBit_lt_two_pow (x := 255) (i := i) (Nat.lt_of_lt_of_le (by decide : 255 < 2 ^ 8) (Nat.pow_le_pow_right (by decide) (by omega)))
      rw [BitVec.getLsbD_ofNat, h, Bool.and_false]
    rw [this, Bool.and_false, Bool.and_false]
theorem pu_byR {x : Int32} {j : Nat} (hj : j < 4) : (x >>> (Int32.ofNat (24 - 8 * j) &&& (31 : Int32))) &&& (255 : Int32) = Int32.ofNat (pu_byt x j) := by
  rw [← pu_byC hj]
  have hk : 24 - 8 * j < 32 := by omega
  have hk2 : 24 - 8 * j ≤ 24 := by omega
  generalize 24 - 8 * j = k at hk hk2
  rw [pu_and31 (show k < 2147483648 by omega), Nat.mod_eq_of_lt hk]
  apply Int32.toBitVec_inj.1
  show (x.toBitVec.sshiftRight' ((BitVec.ofNat 32 k).smod 32)) &&& 255#32 = (x.toBitVec >>> (((BitVec.ofNat 32 k) &&& 31#32) % 32#32)) &&& 255#32
  have e : ((BitVec.ofNat 32 k).smod 32).toNat = k := by
    have : ∀ k : Fin 32, ((BitVec.ofNat 32 k.val).smod 32).toNat = k.val := by decide +kernel
    exact this ⟨k, hk⟩
  have e2 : (((BitVec.ofNat 32 k) &&& 31#32) % 32#32).toNat = k := by
    have : ∀ k : Fin 32, (((BitVec.ofNat 32 k.val) &&& 31#32) % 32#32).toNat = k.val := by decide +kernel
    exact this ⟨k, hk⟩
  show (x.toBitVec.sshiftRight ((BitVec.ofNat 32 k).smod 32).toNat) &&& 255#32 = _
  rw [e, BitVec.ushiftRight_eq', e2]
  exact pu_sarw hk2
theorem pu_l402 : tw_ln (401 + 1) = 600 := by decide +kernel
def pu_Fa (k : Nat) : Prop := k = 400 ∨ k = 402
/-- the class's bytes of a word -/
theorem pu_addBytes {L : Nat} {x : Int32} (h1 : σ 400 1 = Int32.ofNat L) (hL : L + 4 ≤ 600) (hn : 1000 < n) : pu_wp (tw_P_X6_addBytes n x σ) (fun s => s 400 1 = Int32.ofNat (L + 4) ∧ (∀ i, i < L → s 402 i = σ 402 i) ∧ (∀ j, j < 4 → s 402 (L + j) = Int32.ofNat (pu_byt x j)) ∧ pu_fr pu_Fa σ s) := by
  unfold tw_P_X6_addBytes
  refine pu_lt ?_
  refine pu_lp (J := fun s => ∃ j : Nat, j ≤ 4 ∧ s.1 = Int32.ofInt (24 - 8 * (j : Int)) ∧ s.2 400 1 = Int32.ofNat (L + j) ∧ (∀ i, i < L → s.2 402 i = σ 402 i) ∧ (∀ i, i < j → s.2 402 (L + i) = Int32.ofNat (pu_byt x i)) ∧ pu_fr pu_Fa σ s.2) (m := fun s => (s.1.toInt + 8).toNat) ?_ n _ ?_ ⟨0, by omega, rfl, h1, fun _ _ => rfl, fun i hi => absurd hi (Nat.not_lt_zero _), pu_fr_refl⟩
  rotate_left
  · show ((24 : Int32).toInt + 8).toNat < n
    rw [show (24 : Int32).toInt = 24 from by decide]
    omega
  rintro k3 ⟨sh, s⟩ ⟨j, hj, e1, e2, g1, g2, hF⟩ hk3
  dsimp only [] at e1 e2 g1 g2 hF
  subst e1
  dsimp only []
  refine pu_if (fun c1 => ?_) (fun c1 => ?_) <;> rw [Int32.lt_iff_toInt_lt, pu_toInt0, pu_int (by omega) (by omega)] at c1
  · have : j = 4 := by omega
    subst this
    exact pu_some ⟨e2, g1, g2, hF⟩
  have hj4 : j < 4 := by omega
  have es : Int32.ofInt (24 - 8 * (j : Int)) = Int32.ofNat (24 - 8 * j) := by
    rw [← pu_ofInt (by omega)]
    congr 1
    omega
  rw [es] at hk3 ⊢
  rw [e2, pu_byC hj4]
  refine pu_bde (pu_put (i := L + j) pu_l402 (by decide) (by omega)) ?_
  have q1 : tw_up s (401 + 1) (L + j) (Int32.ofNat (pu_byt x j)) 400 1 = Int32.ofNat (L + j) := by rw [tw_up_n (by decide)]; exact e2
  rw [q1, show Int32.ofNat (L + j) + (1 : Int32) = Int32.ofNat (L + j + 1) from pu_add _ 1]
  refine pu_lt (pu_lt ?_)
  have ed : Int32.ofNat (24 - 8 * j) + (-8 : Int32) = Int32.ofInt (24 - 8 * ((j + 1 : Nat) : Int)) := by
    rw [← pu_ofInt (by omega), show (-8 : Int32) = Int32.ofInt (-8) from rfl, pu_addII]
    congr 1
    omega
  rw [ed]
  have u2 : ∀ y i, tw_up (tw_up s (401 + 1) (L + j) (Int32.ofNat (pu_byt x j))) 400 1 y 402 i = upd (s 402) (L + j) (Int32.ofNat (pu_byt x j)) i := fun y i => by
    rw [tw_up_n (by decide)]
    show tw_up s 402 (L + j) (Int32.ofNat (pu_byt x j)) 402 i = _
    rw [tw_up_s]
  refine hk3 _ ⟨j + 1, by omega, rfl, ?_, fun i hi => ?_, fun i hi => ?_, pu_fr_trans hF (pu_fr_trans (pu_fr_up (by unfold pu_Fa; omega)) (pu_fr_up (by unfold pu_Fa; omega)))⟩ ?_
  · dsimp only []
    rw [tw_up_s]
    exact pu_upd_s
  · dsimp only []
    rw [u2, pu_upd_n (by omega)]
    exact g1 i hi
  · dsimp only []
    rw [u2]
    by_cases e : i = j
    · subst e; exact pu_upd_s
    · rw [pu_upd_n (by omega)]
      exact g2 i (by omega)
  · show ((Int32.ofInt (24 - 8 * ((j + 1 : Nat) : Int))).toInt + 8).toNat < ((Int32.ofNat (24 - 8 * j)).toInt + 8).toNat
    rw [pu_int (by omega) (by omega), pu_toInt (by omega)]
    omega
/-- the buffer behind an append -/
def pu_app (W : Nat → Int32) (len : Nat) (buf : Nat → Nat) : Nat → Nat := fun i => if i < len then buf i else pu_byt (W ((i - len) / 4)) ((i - len) % 4)
def pu_wd (x0 x1 x2 x3 x4 : Int32) : Nat → Int32 | 0 => x0 | 1 => x1 | 2 => x2 | 3 => x3 | _ => x4
theorem pu_app_at {W : Nat → Int32} {m j : Nat} (hj : j < 4) : pu_app W len buf (len + 4 * m + j) = pu_byt (W m) j := by
  unfold pu_app
  rw [if_neg (by omega), show (len + 4 * m + j - len) / 4 = m from by omega, show (len + 4 * m + j - len) % 4 = j from by omega]
theorem pu_IC_buf {s : tw_Sg} {len' : Nat} {buf' : Nat → Nat} (I : pu_IC σ w h nb nc a cn hist len buf err) (hf : pu_fr pu_Fa σ s) (h1 : s 400 1 = Int32.ofNat len') (hl : len' ≤ 600) (hb : ∀ i, i < len' → s 402 i = Int32.ofNat (buf' i) ∧ buf' i < 256) : pu_IC s w h nb nc a cn hist len' buf' err := by
  obtain ⟨i1, i2, i3, i4, -, i6⟩ := I
  have g : ∀ k, k ≠ 400 → k ≠ 402 → s k = σ k := fun k z1 z2 => hf k (by unfold pu_Fa; omega)
  exact ⟨i1, pu_CC_fr i1 i2 (fun k hk => g k (by omega) (by omega)), pu_hC_fr i3 i4 (fun k z1 z2 => g k (by omega) (by omega)), i4, ⟨h1, hl, hb⟩, by rw [g 0 (by decide) (by decide)]; exact i6⟩
theorem pu_capp (I : pu_IC σ w h nb nc a cn hist len buf err) (hn : 1000 < n) (x0 x1 x2 x3 x4 : Int32) : pu_wp (tw_P_X11_append n x0 x1 x2 x3 x4 σ) (fun r => if len + 20 ≤ 600 then r.1 = Int32.ofNat (len + 20) ∧ pu_IC r.2 w h nb nc a cn hist (len + 20) (pu_app (pu_wd x0 x1 x2 x3 x4) len buf) err ∧ pu_fr pu_fC σ r.2 else r.1 = -1 ∧ r.2 = σ) := by
  obtain ⟨-, -, -, -, ⟨t1, t2, t3⟩, -⟩ := id I
  unfold tw_P_X11_append
  have e20 : Int32.ofNat len + (20 : Int32) = Int32.ofNat (len + 20) := pu_add len 20
  refine pu_if (fun c1 => ?_) (fun c1 => ?_) <;> rw [t1, e20, show (600 : Int32) = Int32.ofNat 600 from rfl, pu_le (by omega) (by decide)] at c1
  rotate_left
  · refine pu_some ?_
    rw [if_neg c1]
    exact ⟨rfl, rfl⟩
  refine pu_bd (pu_addBytes (L := len + 4 * 0) t1 (by omega) hn) (fun s0 h0 => ?_)
  refine pu_bd (pu_addBytes (L := len + 4 * 1) h0.1 (by omega) hn) (fun s1 h1 => ?_)
  refine pu_bd (pu_addBytes (L := len + 4 * 2) h1.1 (by omega) hn) (fun s2 h2 => ?_)
  refine pu_bd (pu_addBytes (L := len + 4 * 3) h2.1 (by omega) hn) (fun s3 h3 => ?_)
  refine pu_bd (pu_addBytes (L := len + 4 * 4) h3.1 (by omega) hn) (fun s4 h4 => pu_some ?_)
  rw [if_pos c1]
  have hfr : pu_fr pu_Fa σ s4 := pu_fr_trans h0.2.2.2 (pu_fr_trans h1.2.2.2 (pu_fr_trans h2.2.2.2 (pu_fr_trans h3.2.2.2 h4.2.2.2)))
  refine ⟨h4.1, pu_IC_buf I hfr h4.1 c1 (fun i hi => ?_), pu_fr_mono hfr (fun k hk => by unfold pu_Fa at hk; unfold pu_fC; omega)⟩
  by_cases hi0 : i < len
  · have e : pu_app (pu_wd x0 x1 x2 x3 x4) len buf i = buf i := if_pos hi0
    rw [e]
    refine ⟨?_, (t3 i hi0).2⟩
    show s4 402 i = _
    rw [h4.2.1 i (by omega), h3.2.1 i (by omega), h2.2.1 i (by omega), h1.2.1 i (by omega), h0.2.1 i (by omega)]
    exact (t3 i hi0).1
  · obtain ⟨m, j, hj, rfl⟩ : ∃ m j, j < 4 ∧ i = len + 4 * m + j := ⟨(i - len) / 4, (i - len) % 4, Nat.mod_lt _ (by decide), by omega⟩
    rw [pu_app_at hj]
    refine ⟨?_, pu_byt_lt⟩
    show s4 402 _ = _
    have hm : m = 0 ∨ m = 1 ∨ m = 2 ∨ m = 3 ∨ m = 4 := by omega
    rcases hm with z | z | z | z | z
    · subst z
      rw [h4.2.1 _ (by omega), h3.2.1 _ (by omega), h2.2.1 _ (by omega), h1.2.1 _ (by omega)]
      exact h0.2.2.1 j hj
    · subst z
      rw [h4.2.1 _ (by omega), h3.2.1 _ (by omega), h2.2.1 _ (by omega)]
      exact h1.2.2.1 j hj
    · subst z
      rw [h4.2.1 _ (by omega), h3.2.1 _ (by omega)]
      exact h2.2.2.1 j hj
    · subst z
      rw [h4.2.1 _ (by omega)]
      exact h3.2.2.1 j hj
    · subst z
      exact h4.2.2.1 j hj
def pu_Fb (k : Nat) : Prop := k = 442 ∨ k = 443
theorem pu_IR_buf {s : tw_Sg} {len' : Nat} {buf' : Nat → Nat} (H : pu_WF a w h nb nc) (I : pu_IR σ w h nb nc a cn hist len buf err) (hf : pu_fr pu_Fb σ s) (h42 : ∀ i, i ≠ 2 → s 442 i = σ 442 i) (h1 : s 442 2 = Int32.ofNat len') (hb : ∀ i, i < len' → s 443 i = Int32.ofNat (buf' i)) : pu_IR s w h nb nc a cn hist len' buf' err := by
  obtain ⟨⟨r1, r2⟩, ⟨g1, g2, g3, g4⟩, -, i8⟩ := I
  have g : ∀ k, k ≠ 442 → k ≠ 443 → s k = σ k := fun k z1 z2 => hf k (by unfold pu_Fb; omega)
  refine ⟨⟨(g 444 (by decide) (by decide)).trans r1, ?_⟩, ⟨by rw [h42 11 (by decide)]; exact g1, g2, fun i hi => by rw [g _ (by omega) (by omega)]; exact g3 i hi, pu_zb_fr g4 (fun r hr => g r (by unfold pu_dr at hr; omega) (by unfold pu_dr at hr; omega))⟩, ⟨h1, hb⟩, by rw [h42 7 (by decide)]; exact i8⟩
  rw [h42 22 (by decide)]
  rcases r2 with z | ⟨z1, z2⟩
  · exact Or.inl z
  · exact Or.inr ⟨z1, fun q hq l hl => pu_es_cong (z2 q hq l hl) (g _ (by unfold pu_En; omega) (by unfold pu_En; omega))⟩
theorem pu_cerr (I : pu_IC σ w h nb nc a cn hist len buf err) : tw_P_X11_errorOffset σ = some err := by
  unfold tw_P_X11_errorOffset
  rw [I.2.2.2.2.2]
end APP
