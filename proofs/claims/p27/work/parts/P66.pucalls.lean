/-! calls: what they are asked, what they answer -/
def pu_cellOf (w h : Nat) (x y : Int32) : Option Nat := if 0 ≤ x.toInt ∧ x.toInt < w ∧ 0 ≤ y.toInt ∧ y.toInt < h then some (y.toNatClampNeg * w + x.toNatClampNeg) else none
theorem pu_back {x : Int32} (h : 0 ≤ x.toInt) : x = Int32.ofNat x.toNatClampNeg ∧ (x.toNatClampNeg : Int) = x.toInt ∧ x.toNatClampNeg < 2147483648 := by
  have e : (x.toNatClampNeg : Int) = x.toInt := by
    show ((x.toInt.toNat : Nat) : Int) = _
    exact Int.toNat_of_nonneg h
  have hl : x.toInt < 2147483648 := Int32.toInt_lt x
  have hn : x.toNatClampNeg < 2147483648 := by omega
  refine ⟨?_, e, hn⟩
  apply Int32.toInt_inj.1
  rw [pu_toInt hn, e]
theorem pu_cellOf_some {w h c : Nat} {x y : Int32} (e : pu_cellOf w h x y = some c) : ∃ i j, x = Int32.ofNat i ∧ y = Int32.ofNat j ∧ i < w ∧ j < h ∧ c = j * w + i := by
  unfold pu_cellOf at e
  by_cases hc : 0 ≤ x.toInt ∧ x.toInt < w ∧ 0 ≤ y.toInt ∧ y.toInt < h
  · rw [if_pos hc] at e
    cases e
    obtain ⟨h1, h2, h3, h4⟩ := hc
    obtain ⟨a1, a2, a3⟩ := pu_back h1
    obtain ⟨b1, b2, b3⟩ := pu_back h3
    exact ⟨_, _, a1, b1, by omega, by omega, rfl⟩
  · rw [if_neg hc] at e
    cases e
theorem pu_cellOf_lt {w h c : Nat} {x y : Int32} (e : pu_cellOf w h x y = some c) : c < w * h := by
  obtain ⟨i, j, -, -, hi, hj, rfl⟩ := pu_cellOf_some e
  exact pu_cell_lt hj hi
theorem pu_toInt0 : (0 : Int32).toInt = 0 := by decide
theorem pu_checkedSpot {σ : tw_Sg} {w h : Nat} {x y : Int32} (hw : σ 1 0 = Int32.ofNat w) (hh : σ 1 1 = Int32.ofNat h) (w2 : w ≤ 20) (h2 : h ≤ 20) : tw_P_X11_checkedSpot x y σ = some (match pu_cellOf w h x y with | some c => .inl (Int32.ofNat (pu_sp w c)) | none => .inr "java/lang/IndexOutOfBoundsException") := by
  unfold tw_P_X11_checkedSpot
  dsimp only [tw_jn]
  rw [hw, hh]
  have ew : (Int32.ofNat w).toInt = w := pu_toInt (by omega)
  have eh : (Int32.ofNat h).toInt = h := pu_toInt (by omega)
  have hn : ∀ hc : ¬ (0 ≤ x.toInt ∧ x.toInt < w ∧ 0 ≤ y.toInt ∧ y.toInt < h), pu_cellOf w h x y = none := fun hc => if_neg hc
  by_cases c1 : x < 0
  · rw [if_pos c1, hn (by rw [Int32.lt_iff_toInt_lt, pu_toInt0] at c1; omega)]
  rw [if_neg c1]
  by_cases c2 : Int32.ofNat w ≤ x
  · rw [if_pos c2, hn (by rw [Int32.le_iff_toInt_le, ew] at c2; omega)]
  rw [if_neg c2]
  by_cases c3 : y < 0
  · rw [if_pos c3, hn (by rw [Int32.lt_iff_toInt_lt, pu_toInt0] at c3; omega)]
  rw [if_neg c3]
  by_cases c4 : y < Int32.ofNat h
  · rw [if_pos c4]
    rw [Int32.lt_iff_toInt_lt, pu_toInt0] at c1 c3
    rw [Int32.le_iff_toInt_le, ew] at c2
    rw [Int32.lt_iff_toInt_lt, eh] at c4
    obtain ⟨a1, a2, a3⟩ := pu_back (x := x) (by omega)
    obtain ⟨b1, b2, b3⟩ := pu_back (x := y) (by omega)
    have e : pu_cellOf w h x y = some (y.toNatClampNeg * w + x.toNatClampNeg) := if_pos ⟨by omega, by omega, by omega, by omega⟩
    rw [e]
    generalize x.toNatClampNeg = i at a1 a2 a3 ⊢
    generalize y.toNatClampNeg = j at b1 b2 b3 ⊢
    subst a1; subst b1
    rw [pu_spotAt]
    dsimp only [tw_bd]
    obtain ⟨d1, d2⟩ := pu_dm (w := w) (q := j) (r := i) (by omega)
    unfold pu_sp
    rw [d1, d2]
  · rw [if_neg c4, hn (by rw [Int32.lt_iff_toInt_lt, eh] at c4; omega)]
theorem pu_pred {m : Nat} (h : m ≤ 100000) : (Int32.ofNat m - (1 : Int32)).toInt = (m : Int) - 1 := by
  by_cases e : m = 0
  · subst e; decide
  · have : Int32.ofNat m - (1 : Int32) = Int32.ofNat (m - 1) := pu_sub (b := 1) (by omega)
    rw [this, pu_toInt (by omega)]
    omega
def pu_clueOf (nc : Nat) (x : Int32) : Option Nat := if 0 ≤ x.toInt ∧ x.toInt < nc then some x.toNatClampNeg else none
theorem pu_clueOf_some {nc q : Nat} {x : Int32} (e : pu_clueOf nc x = some q) : x = Int32.ofNat q ∧ q < nc := by
  unfold pu_clueOf at e
  by_cases hc : 0 ≤ x.toInt ∧ x.toInt < nc
  · rw [if_pos hc] at e
    cases e
    obtain ⟨a1, a2, a3⟩ := pu_back hc.1
    exact ⟨a1, by omega⟩
  · rw [if_neg hc] at e
    cases e
theorem pu_checkClue {σ : tw_Sg} {nc : Nat} {x : Int32} (hn : σ 14 0 = Int32.ofNat nc) (h4 : nc ≤ 4) : tw_P_X11_checkClue x σ = some (match pu_clueOf nc x with | some _ => .inl () | none => .inr "java/lang/IndexOutOfBoundsException") := by
  unfold tw_P_X11_checkClue
  dsimp only [tw_jn]
  rw [hn]
  have en : (Int32.ofNat nc).toInt = nc := pu_toInt (by omega)
  have hN : ∀ hc : ¬ (0 ≤ x.toInt ∧ x.toInt < nc), pu_clueOf nc x = none := fun hc => if_neg hc
  by_cases c1 : x < 0
  · rw [if_pos c1, hN (by rw [Int32.lt_iff_toInt_lt, pu_toInt0] at c1; omega)]
  rw [if_neg c1]
  rw [Int32.lt_iff_toInt_lt, pu_toInt0] at c1
  by_cases c2 : x < Int32.ofNat nc
  · rw [if_pos c2]
    rw [Int32.lt_iff_toInt_lt, en] at c2
    rw [show pu_clueOf nc x = some x.toNatClampNeg from if_pos ⟨by omega, c2⟩]
  · rw [if_neg c2]
    rw [Int32.lt_iff_toInt_lt, en] at c2
    rw [hN (by omega)]
/-! outcomes: inl an answer, inr a fault's number -/
def pu_code : Int32 ⊕ Int32 → Int32 | .inl _ => 0 | .inr k => k
def pu_SQ (k : Nat) : Prop := k = 1036 ∨ (112 ≤ k ∧ k < 142) ∨ (435 ≤ k ∧ k < 442)
def pu_QC (σ : tw_Sg) (o : Int32 ⊕ Int32) (r : Int32 × tw_Sg) : Prop := r.1 = pu_code o ∧ (∀ v, o = .inl v → r.2 1036 0 = v) ∧ pu_fr pu_SQ σ r.2
def pu_FQ (k : Nat) : Prop := k = 442 ∨ k = 455 ∨ k = 456 ∨ (459 ≤ k ∧ k < 1036)
def pu_QR (σ : tw_Sg) (a : Nat → Int32) (w h nb nc : Nat) (o : Int32 ⊕ Int32) (r : Int32 × tw_Sg) : Prop := r.2 442 0 = pu_code o ∧ (∀ v, o = .inl v → r.1 = v) ∧ pu_RL r.2 a w h nb nc ∧ (∀ i, i ≠ 0 → i ≠ 22 → r.2 442 i = σ 442 i) ∧ pu_fr pu_FQ σ r.2
/-- the class between calls, as far as a question needs it -/
def pu_CC (σ : tw_Sg) (a : Nat → Int32) (w h nb nc : Nat) : Prop := pu_CD (pu_bk σ 1) a w h nb nc ∧ pu_lay σ a w h nb nc ∧ pu_twOK σ a w h nb
theorem pu_l1036 : pw_ln 1036 = 1 := by decide +kernel
/-- the law's wrapper, answer given -/
theorem pu_tell {σ σ1 : tw_Sg} {v : Int32} {o : Int32 ⊕ Int32} (ho : o = .inl v) (hf : pu_fr pu_SQ σ σ1) : pu_wp (tw_ck (tw_ok (0 : Int32) (pw_ln 1036)) (tw_lt (tw_up σ1 1036 (Int32.toNatClampNeg (0 : Int32)) v) (fun (s9 : tw_Sg) => some ((0 : Int32), s9)))) (pu_QC σ o) := by
  subst ho
  rw [pu_l1036]
  refine pu_ck (by decide) (pu_lt (pu_some (r := ((0 : Int32), _)) ⟨rfl, fun u hu => ?_, pu_fr_trans hf (pu_fr_up (Or.inl rfl))⟩))
  cases hu
  show tw_up σ1 1036 0 v 1036 0 = v
  rw [tw_up_s]
  exact if_pos rfl
theorem pu_fault {σ : tw_Sg} {k : Int32} {o : Int32 ⊕ Int32} (ho : o = .inr k) : pu_QC σ o (k, σ) := by
  subst ho
  exact ⟨rfl, fun u hu => (by cases hu), pu_fr_refl⟩
/-- the reference's fault -/
theorem pu_rfault {σ σ1 : tw_Sg} {a : Nat → Int32} {w h nb nc : Nat} {o : Int32 ⊕ Int32} {v k : Int32} (ho : o = .inr k) (hL : pu_RL σ1 a w h nb nc) (hi : ∀ i, i ≠ 0 → i ≠ 22 → σ1 442 i = σ 442 i) (hf : pu_fr pu_FQ σ σ1) : pu_QR σ a w h nb nc o (v, tw_up σ1 442 0 k) := by
  subst ho
  have h444 : tw_up σ1 442 0 k 444 = σ1 444 := tw_up_n (by decide)
  refine ⟨?_, fun u hu => (by cases hu), ⟨h444.trans hL.1, ?_⟩, fun i h0 h22 => ?_, pu_fr_trans hf (pu_fr_up (Or.inl rfl))⟩
  · show tw_up σ1 442 0 k 442 0 = k
    rw [tw_up_s]
    exact if_pos rfl
  · have e22 : tw_up σ1 442 0 k 442 22 = σ1 442 22 := by rw [tw_up_s]; exact if_neg (by decide)
    show tw_up σ1 442 0 k 442 22 = 0 ∨ (tw_up σ1 442 0 k 442 22 = 1 ∧ pu_ends (tw_up σ1 442 0 k) a w h nb nc)
    rw [e22]
    rcases hL.2 with z | ⟨z1, z2⟩
    · exact Or.inl z
    · exact Or.inr ⟨z1, fun q hq l hl d hd => (by rw [tw_up_n (by unfold pu_En; omega)]; exact z2 q hq l hl d hd)⟩
  · show tw_up σ1 442 0 k 442 i = _
    rw [tw_up_s]
    exact (if_neg h0).trans (hi i h0 h22)
/-- the start of a call to the reference -/
theorem pu_ropen {σ : tw_Sg} {a : Nat → Int32} {w h nb nc : Nat} (hL : pu_RL σ a w h nb nc) : (tw_up σ 442 0 0) 442 0 = 0 ∧ pu_RL (tw_up σ 442 0 0) a w h nb nc ∧ (∀ i, i ≠ 0 → i ≠ 22 → (tw_up σ 442 0 0) 442 i = σ 442 i) ∧ pu_fr pu_FQ σ (tw_up σ 442 0 0) := by
  obtain ⟨h1, h2, h3, h4, h5⟩ := pu_rfault (σ := σ) (v := 0) (k := 0) (o := .inr 0) rfl hL (fun _ _ _ => rfl) pu_fr_refl
  exact ⟨h1, h3, h4, h5⟩
theorem pu_RS_FQ {σ σ' : tw_Sg} (h : pu_RS σ σ') : (∀ i, i ≠ 0 → i ≠ 22 → σ' 442 i = σ 442 i) ∧ σ' 442 0 = σ 442 0 ∧ pu_fr pu_FQ σ σ' := ⟨fun i _ h22 => h.1 i h22, h.1 0 (by decide), pu_fr_mono h.2 (fun k hk => by unfold pu_F11 pu_F10 pu_F9 at hk; unfold pu_FQ; omega)⟩
theorem pu_10 : ¬ (1 : Int32) = 0 := by decide
