/-! the history on either side -/
def pu_cd (b : tw_Sg) (a : Nat → Int32) : Prop := pu_CD b a (pu_v a 0) (pu_v a 1) (pu_v a 2) (pu_v a 3)
def pu_wf (a : Nat → Int32) : Prop := pu_WF a (pu_v a 0) (pu_v a 1) (pu_v a 2) (pu_v a 3)
def pu_push (cn : Nat) (hist : Nat → Nat → Int32) (a : Nat → Int32) : Nat → Nat → Int32 := fun i => if cn < 8 then (if i = cn then a else hist i) else (if i = 7 then a else hist (i + 1))
theorem pu_cd_live {σ σ' : tw_Sg} {d d' : Nat} {a : Nat → Int32} (W : pu_wf a) (H : pu_cd (pu_bk σ d) a) (e : ∀ j i, pu_lv j i → σ' (d' + j) i = σ (d + j) i) : pu_cd (pu_bk σ' d') a := by
  obtain ⟨l1, l2, l3, l4, l5, l6⟩ := pu_CD_lens W
  exact pu_CD_live l1 l2 l3 l4 l5 l6 H e
theorem pu_lv_lt {j i : Nat} (h : pu_lv j i) : j < 32 := by unfold pu_lv at h; omega
def pu_hC (σ : tw_Sg) (cn : Nat) (hist : Nat → Nat → Int32) : Prop := ∃ p, p < 8 ∧ σ 142 1 = Int32.ofNat p ∧ σ 142 2 = Int32.ofNat cn ∧ cn ≤ 8 ∧ ∀ i, i < cn → pu_cd (pu_bk σ (144 + 32 * ((p + 8 - cn + i) % 8))) (hist i)
def pu_F4 (k : Nat) : Prop := k = 142 ∨ (144 ≤ k ∧ k < 400)
theorem pu_kdslot {p : Nat} (h : p < 8) : tw_kd (143 + 1 + 32 * p) = 2 := eq_of_beq (tw_rng (n := 8) (p := fun p => tw_kd (143 + 1 + 32 * p) == 2) (by decide +kernel) p h)
theorem pu_placeAt {σ : tw_Sg} {p : Nat} (h : p < 8) : tw_P_X4_placeAt (Int32.ofNat p) σ = some (some (143 + 1 + 32 * p)) := by
  dsimp only [tw_P_X4_placeAt, tw_jn]
  rw [show tw_ln 143 = 8 from by decide +kernel, if_neg (pu_nn (by omega)), if_neg (by rw [pu_le (by omega) (by omega)]; omega), pu_ok (by omega) h, pu_n (by omega)]
  rfl
theorem pu_ckeep {σ : tw_Sg} {cn : Nat} {hist : Nat → Nat → Int32} {a : Nat → Int32} (hH : pu_hC σ cn hist) (hW : ∀ i, i < cn → pu_wf (hist i)) (Wa : pu_wf a) (Ha : pu_cd (pu_bk σ 1) a) : pu_wp (tw_P_X4_keep 1 σ) (fun σ' => pu_hC σ' (min (cn + 1) 8) (pu_push cn hist a) ∧ pu_fr pu_F4 σ σ') := by
  obtain ⟨p, hp, e1, e2, h8, hs⟩ := hH
  unfold tw_P_X4_keep
  rw [e1]
  refine pu_bde (pu_placeAt hp) ?_
  refine pu_ck (by unfold tw_nk; exact decide_eq_true (pu_kdslot hp)) ?_
  dsimp only [tw_jn, tw_mt]
  refine pu_bd (pu_dcopy (σ := σ) (pu_kdslot hp) (by decide +kernel) (by omega)) (fun σ1 H1 => ?_)
  obtain ⟨f1, f2⟩ := H1
  refine pu_ck (by decide) ?_
  have e3 : σ1 142 1 = Int32.ofNat p := by rw [f1 142 (by omega)]; exact e1
  have e4 : σ1 142 2 = Int32.ofNat cn := by rw [f1 142 (by omega)]; exact e2
  have en : Int32.ofNat p + (1 : Int32) = Int32.ofNat (p + 1) := pu_add p 1
  have em : Int32.ofNat (p + 1) - Int32.ofNat (p + 1) / (8 : Int32) * (8 : Int32) = Int32.ofNat ((p + 1) % 8) := pu_rem (by omega) (by decide)
  rw [e3, en, em]
  refine pu_lt ?_
  refine pu_lt ?_
  have e5 : tw_up σ1 142 1 (Int32.ofNat ((p + 1) % 8)) 142 2 = Int32.ofNat cn := by rw [tw_up_s]; exact (if_neg (by decide)).trans e4
  have ec : Int32.ofNat cn + (1 : Int32) = Int32.ofNat (cn + 1) := pu_add cn 1
  have emin : (if (8 : Int32) < Int32.ofNat (cn + 1) then (8 : Int32) else Int32.ofNat (cn + 1)) = Int32.ofNat (min (cn + 1) 8) := by
    by_cases h : cn = 8
    · subst h; rfl
    · rw [if_neg (by intro q; have q := (pu_ltn (a := 8) (by decide) (by omega)).mp q; omega), Nat.min_eq_left (by omega)]
  rw [e5, ec, emin]
  refine pu_some ⟨⟨(p + 1) % 8, Nat.mod_lt _ (by decide), ?_, ?_, by omega, fun i hi => ?_⟩, fun k hk => ?_⟩
  · rw [tw_up_s]
    show upd (tw_up σ1 142 1 (Int32.ofNat ((p + 1) % 8)) 142) 2 _ 1 = _
    unfold upd
    rw [if_neg (by decide), tw_up_s]
    exact if_pos rfl
  · rw [tw_up_s]
    exact if_pos rfl
  · have hnew : pu_cd (pu_bk (tw_up (tw_up σ1 142 1 (Int32.ofNat ((p + 1) % 8))) 142 2 (Int32.ofNat (min (cn + 1) 8))) (144 + 32 * p)) a := by
      refine pu_cd_live Wa Ha (fun j i hl => ?_)
      have := pu_lv_lt hl
      rw [tw_up_n (by omega), tw_up_n (by omega)]
      exact f2 j i hl
    have hold : ∀ s i', s < 8 → s ≠ p → i' < cn → pu_cd (pu_bk σ (144 + 32 * s)) (hist i') → pu_cd (pu_bk (tw_up (tw_up σ1 142 1 (Int32.ofNat ((p + 1) % 8))) 142 2 (Int32.ofNat (min (cn + 1) 8))) (144 + 32 * s)) (hist i') := by
      intro s i' hs8 hne hi' H
      refine pu_cd_live (hW i' hi') H (fun j i hl => ?_)
      have := pu_lv_lt hl
      rw [tw_up_n (by omega), tw_up_n (by omega), f1 _ (by omega)]
    unfold pu_push
    by_cases h : cn < 8
    · rw [if_pos h]
      have hmn : min (cn + 1) 8 = cn + 1 := by omega
      rw [hmn] at hi ⊢
      rw [hmn] at hnew hold
      by_cases hic : i = cn
      · rw [if_pos hic, show ((p + 1) % 8 + 8 - (cn + 1) + i) % 8 = p from by omega]
        exact hnew
      · rw [if_neg hic, show ((p + 1) % 8 + 8 - (cn + 1) + i) % 8 = (p + 8 - cn + i) % 8 from by omega]
        exact hold _ i (Nat.mod_lt _ (by decide)) (by omega) (by omega) (hs i (by omega))
    · have hcn : cn = 8 := by omega
      subst hcn
      rw [if_neg h]
      by_cases hic : i = 7
      · rw [if_pos hic, show ((p + 1) % 8 + 8 - min (8 + 1) 8 + i) % 8 = p from by omega]
        exact hnew
      · rw [if_neg hic, show ((p + 1) % 8 + 8 - min (8 + 1) 8 + i) % 8 = (p + 8 - 8 + (i + 1)) % 8 from by omega]
        exact hold _ (i + 1) (Nat.mod_lt _ (by decide)) (by omega) (by omega) (hs (i + 1) (by omega))
  · unfold pu_F4 at hk
    rw [tw_up_n (by omega), tw_up_n (by omega)]
    exact f1 k (by omega)
theorem pu_ctake0 {σ : tw_Sg} {hist : Nat → Nat → Int32} (hH : pu_hC σ 0 hist) : tw_P_X4_takeBack 1 σ = some (0, σ) := by
  obtain ⟨p, hp, e1, e2, h8, hs⟩ := hH
  unfold tw_P_X4_takeBack
  rw [e2, if_neg (by decide)]
  rfl
def pu_F5 (k : Nat) : Prop := k = 142 ∨ (1 ≤ k ∧ k < 33)
theorem pu_ctake {σ : tw_Sg} {cn : Nat} {hist : Nat → Nat → Int32} (hH : pu_hC σ (cn + 1) hist) (hW : ∀ i, i < cn + 1 → pu_wf (hist i)) : pu_wp (tw_P_X4_takeBack 1 σ) (fun r => r.1 = 1 ∧ pu_hC r.2 cn hist ∧ pu_cd (pu_bk r.2 1) (hist cn) ∧ pu_fr pu_F5 σ r.2) := by
  obtain ⟨p, hp, e1, e2, h8, hs⟩ := hH
  unfold tw_P_X4_takeBack
  rw [e2]
  refine pu_ift ((pu_ltn (a := 0) (by decide) (by omega)).mpr (by omega)) ?_
  refine pu_ck (by decide) ?_
  refine pu_lt ?_
  refine pu_lt ?_
  have ea : Int32.ofNat p + (8 : Int32) = Int32.ofNat (p + 8) := pu_add p 8
  have eb : Int32.ofNat (p + 8) - (1 : Int32) = Int32.ofNat (p + 7) := pu_sub (a := p + 8) (b := 1) (by omega)
  have em : Int32.ofNat (p + 7) - Int32.ofNat (p + 7) / (8 : Int32) * (8 : Int32) = Int32.ofNat ((p + 7) % 8) := pu_rem (by omega) (by decide)
  rw [e1, ea, eb, em]
  have e5 : tw_up σ 142 1 (Int32.ofNat ((p + 7) % 8)) 142 2 = Int32.ofNat (cn + 1) := by rw [tw_up_s]; exact (if_neg (by decide)).trans e2
  have ec : Int32.ofNat (cn + 1) - (1 : Int32) = Int32.ofNat cn := pu_sub (a := cn + 1) (b := 1) (by omega)
  rw [e5, ec]
  have hq : (p + 7) % 8 < 8 := Nat.mod_lt _ (by decide)
  have g1 : tw_up (tw_up σ 142 1 (Int32.ofNat ((p + 7) % 8))) 142 2 (Int32.ofNat cn) 142 1 = Int32.ofNat ((p + 7) % 8) := by
    rw [tw_up_s]
    unfold upd
    rw [if_neg (by decide), tw_up_s]
    exact if_pos rfl
  have g2 : tw_up (tw_up σ 142 1 (Int32.ofNat ((p + 7) % 8))) 142 2 (Int32.ofNat cn) 142 2 = Int32.ofNat cn := by
    rw [tw_up_s]
    exact if_pos rfl
  have g3 : ∀ k, k ≠ 142 → tw_up (tw_up σ 142 1 (Int32.ofNat ((p + 7) % 8))) 142 2 (Int32.ofNat cn) k = σ k := fun k hk => by rw [tw_up_n hk, tw_up_n hk]
  generalize tw_up (tw_up σ 142 1 (Int32.ofNat ((p + 7) % 8))) 142 2 (Int32.ofNat cn) = σ2 at *
  rw [g1]
  refine pu_bde (pu_placeAt hq) ?_
  refine pu_ck (by unfold tw_nk; exact decide_eq_true (pu_kdslot hq)) ?_
  dsimp only [tw_jn, tw_mt]
  refine pu_bd (pu_dcopy (σ := σ2) (th := 1) (by decide +kernel) (pu_kdslot hq) (by omega)) (fun σ1 H1 => ?_)
  obtain ⟨f1, f2⟩ := H1
  refine pu_ck (by decide) ?_
  refine pu_some (r := ((1 : Int32), σ1)) ?_
  show (1 : Int32) = 1 ∧ pu_hC σ1 cn hist ∧ pu_cd (pu_bk σ1 1) (hist cn) ∧ pu_fr pu_F5 σ σ1
  refine ⟨rfl, ⟨(p + 7) % 8, hq, by rw [f1 142 (by omega)]; exact g1, by rw [f1 142 (by omega)]; exact g2, by omega, fun i hi => ?_⟩, ?_, fun k hk => ?_⟩
  · rw [show ((p + 7) % 8 + 8 - cn + i) % 8 = (p + 8 - (cn + 1) + i) % 8 from by omega]
    refine pu_cd_live (hW i (by omega)) (hs i (by omega)) (fun j i' hl => ?_)
    have := pu_lv_lt hl
    rw [f1 _ (by omega), g3 _ (by omega)]
  · have h := hs cn (by omega)
    rw [show (p + 8 - (cn + 1) + cn) % 8 = (p + 7) % 8 from by omega] at h
    refine pu_cd_live (hW cn (by omega)) h (fun j i' hl => ?_)
    have := pu_lv_lt hl
    rw [f2 j i' hl, show 143 + 1 + 32 * ((p + 7) % 8) = 144 + 32 * ((p + 7) % 8) from by omega, g3 _ (by omega)]
  · unfold pu_F5 at hk
    rw [f1 k (by omega), g3 k (by omega)]
/-! the reference's history -/
def pu_dr (r : Nat) : Prop := r = 444 ∨ r = 445 ∨ (447 ≤ r ∧ r < 455)
def pu_zb (σ : tw_Sg) : Prop := ∀ r, pu_dr r → ∀ j, 1028 ≤ j → σ r j = 0
theorem pu_upAA {σ : tw_Sg} {A i : Nat} {f : Nat → Int32} {x : Int32} : tw_up (tw_upA σ A f) A i x = tw_upA σ A (upd f i x) := by
  rw [tw_up_A]
  funext k
  by_cases h : k = A
  · subst h; rw [tw_upA_s, tw_upA_s, tw_upA_s]
  · rw [tw_upA_n h, tw_upA_n h, tw_upA_n h]
theorem pu_zb_upA {σ : tw_Sg} {r : Nat} {f : Nat → Int32} (hz : pu_zb σ) (hf : ∀ j, 1028 ≤ j → f j = 0) : pu_zb (tw_upA σ r f) := by
  intro r' h' j hj
  by_cases e : r' = r
  · subst e; rw [tw_upA_s]; exact hf j hj
  · rw [tw_upA_n e]; exact hz r' h' j hj
theorem pu_zb_fr {σ σ' : tw_Sg} (hz : pu_zb σ) (h : ∀ r, pu_dr r → σ' r = σ r) : pu_zb σ' := fun r hr j hj => by rw [h r hr]; exact hz r hr j hj
def pu_hR (σ : tw_Sg) (cn : Nat) (hist : Nat → Nat → Int32) : Prop := σ 442 11 = Int32.ofNat cn ∧ cn ≤ 8 ∧ (∀ i, i < cn → σ (447 + i) = hist i) ∧ pu_zb σ
def pu_F6 (k : Nat) : Prop := k = 442 ∨ (447 ≤ k ∧ k < 455)
