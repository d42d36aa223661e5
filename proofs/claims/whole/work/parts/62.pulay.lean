/-! the reference lays the sets of all legs -/
def pu_En (q l : Nat) : Nat := 459 + 10 * q + l
noncomputable def pu_bi (P : Prop) : Int32 := if pu_B P then 1 else 0
theorem pu_bi_t {P : Prop} (h : P) : pu_bi P = 1 := by unfold pu_bi; rw [pu_B_t h]; rfl
theorem pu_bi_f {P : Prop} (h : ¬ P) : pu_bi P = 0 := by unfold pu_bi; rw [pu_B_f h]; rfl
theorem pu_bi_cong {P Q : Prop} (h : P ↔ Q) : pu_bi P = pu_bi Q := by unfold pu_bi; rw [pu_B_cong h]
theorem pu_bi_01 {P : Prop} : tw_01 (pu_bi P) = true := by
  by_cases h : P
  · rw [pu_bi_t h]; rfl
  · rw [pu_bi_f h]; rfl
theorem pu_bi_0 {P : Prop} : pu_bi P = 0 ↔ ¬ P := by
  by_cases h : P
  · rw [pu_bi_t h]; exact ⟨fun e => absurd e (by decide), fun n => absurd h n⟩
  · rw [pu_bi_f h]; exact ⟨fun _ => h, fun _ => rfl⟩
/-- the row A holds the set P of the cells below m -/
def pu_es (σ : tw_Sg) (A m : Nat) (P : Nat → Prop) : Prop := ∀ d, d < m → σ A d = pu_bi (P d)
theorem pu_es_cong {σ σ' : tw_Sg} {A m : Nat} {P : Nat → Prop} (h : pu_es σ A m P) (e : σ' A = σ A) : pu_es σ' A m P := fun d hd => by rw [e]; exact h d hd
theorem pu_es_ext {σ : tw_Sg} {A m : Nat} {P Q : Nat → Prop} (h : pu_es σ A m P) (e : ∀ d, d < m → (P d ↔ Q d)) : pu_es σ A m Q := fun d hd => (h d hd).trans (pu_bi_cong (e d hd))
theorem pu_es_set {σ : tw_Sg} {A m x : Nat} {P : Nat → Prop} (h : pu_es σ A m P) : pu_es (tw_up σ A x 1) A m (fun d => P d ∨ d = x) := by
  intro d hd
  rw [tw_up_s]
  unfold upd
  by_cases e : d = x
  · rw [if_pos e, pu_bi_t (Or.inr e)]
  · rw [if_neg e, h d hd]
    exact pu_bi_cong ⟨Or.inl, fun z => z.elim id (fun y => absurd y e)⟩
theorem pu_lE {q l : Nat} (hq : q < 4) (hl : l < 9) : tw_ln (pu_En q l) = 400 := by
  have h := tw_rng (n := 4) (p := fun q => (List.range 9).all fun l => tw_ln (459 + 10 * q + l) == 400) (by decide +kernel) q hq
  exact eq_of_beq (tw_rng (n := 9) (p := fun l => tw_ln (459 + 10 * q + l) == 400) h l hl)
theorem pu_lE9 {q : Nat} (hq : q < 4) : tw_ln (457 + 1 + 10 * q) = 9 := eq_of_beq (tw_rng (n := 4) (p := fun q => tw_ln (457 + 1 + 10 * q) == 9) (by decide +kernel) q hq)
theorem pu_l457 : tw_ln 457 = 4 := by decide +kernel
theorem pu_legs {σ : tw_Sg} {w h nc q : Nat} (hcc : pu_wfc (σ 444) w h nc) (hq : q < nc) : tw_P_X12_legs (Int32.ofNat q) σ = some (Int32.ofNat (pu_nl (σ 444) q)) := by
  obtain ⟨-, hnc, hcq⟩ := hcc
  obtain ⟨-, -, ⟨e1, -⟩, -, -⟩ := hcq q hq
  unfold tw_P_X12_legs
  rw [pu_clueAt]
  dsimp only [tw_bd]
  have ea : Int32.ofNat (pu_cl q) + (2 : Int32) = Int32.ofNat (pu_cl q + 2) := pu_add _ 2
  have hl : pu_cl q + 2 < 1028 := by unfold pu_cl; omega
  rw [pu_l444, ea, pu_ok (by omega) hl, pu_n (by omega), e1]
  rfl
theorem pu_startOf {σ : tw_Sg} {w h nc q k : Nat} (hm : pu_wfm (σ 444) w h) (hcc : pu_wfc (σ 444) w h nc) (hq : q < nc) (hk : k < pu_ns (σ 444) q) : tw_P_X12_startOf (Int32.ofNat q) (Int32.ofNat k) σ = some (Int32.ofNat (pu_sc (σ 444) q k)) ∧ pu_sc (σ 444) q k < w * h := by
  obtain ⟨-, hnc, hcq⟩ := hcc
  obtain ⟨-, ⟨-, hns⟩, -, hst, -⟩ := hcq q hq
  have hns : pu_ns (σ 444) q < 9 := hns
  obtain ⟨⟨s1, s2⟩, s3, s4⟩ := hst k hk
  refine ⟨?_, s4⟩
  unfold tw_P_X12_startOf
  rw [pu_clueAt]
  dsimp only [tw_bd]
  have ea : Int32.ofNat (pu_cl q) + (3 : Int32) + Int32.ofNat k = Int32.ofNat (pu_cl q + 3 + k) := by
    show Int32.ofNat (pu_cl q) + Int32.ofNat 3 + Int32.ofNat k = _
    rw [pu_add, pu_add]
  have hl : pu_cl q + 3 + k < 1028 := by unfold pu_cl; omega
  have eb : (808 : Int32) + Int32.ofNat (pu_v (σ 444) (pu_cl q + 3 + k)) = Int32.ofNat (808 + pu_v (σ 444) (pu_cl q + 3 + k)) := pu_add 808 _
  rw [pu_l444, ea, pu_ok (by omega) hl, pu_n (by omega), s1, eb, pu_ok (by omega) (by omega), pu_n (by omega), s3]
  rfl
def pu_F10 (k : Nat) : Prop := pu_F9 k ∨ (459 ≤ k ∧ k < 498)
theorem pu_nar1 : vp_nar .boolean (1 : Int32) = 1 := by decide
theorem pu_nar0 : vp_nar .boolean (0 : Int32) = 0 := by decide
theorem pu_layLeg {σ : tw_Sg} {w h nb nc q l n : Nat} (hm : pu_wfm (σ 444) w h) (hb : pu_wfb (σ 444) w h nb) (hcc : pu_wfc (σ 444) w h nc) (hq : q < nc) (hl : l < pu_nl (σ 444) q) (hn : 1000 < n) (h1 : pu_es σ (pu_En q l) (w * h) (pu_Fw (σ 444) w h nb q l)) (h2 : pu_es σ (pu_En q (l + 1)) (w * h) (fun _ => False)) :
    pu_wp (tw_P_X12_layLeg n (Int32.ofNat q) (Int32.ofNat l) σ) (fun σ' => pu_es σ' (pu_En q (l + 1)) (w * h) (pu_Fw (σ 444) w h nb q (l + 1)) ∧ pu_fr (fun k => pu_F9 k ∨ k = pu_En q (l + 1)) σ σ') := by
  have hle := pu_wfm_le hm
  obtain ⟨-, hnc, hcq⟩ := id hcc
  obtain ⟨-, -, ⟨-, hnl⟩, -, -⟩ := hcq q hq
  have hnl : pu_nl (σ 444) q < 9 := hnl
  have el : Int32.ofNat l + (1 : Int32) = Int32.ofNat (l + 1) := pu_add l 1
  unfold tw_P_X12_layLeg
  rw [el, pu_n (show q < 2147483648 by omega), pu_n (show l < 2147483648 by omega), pu_n (show l + 1 < 2147483648 by omega), pu_l457, pu_lE9 (by omega), show 457 + 1 + 10 * q + 1 + 1 * l = pu_En q l from by unfold pu_En; omega, show 457 + 1 + 10 * q + 1 + 1 * (l + 1) = pu_En q (l + 1) from by unfold pu_En; omega, pu_lE (by omega) (by omega), pu_lE (by omega) (by omega), pu_nar1, show tw_ln 455 = 36 from by decide +kernel]
  refine pu_lt ?_
  have hne : pu_En q l ≠ pu_En q (l + 1) := by unfold pu_En; omega
  have hEr : ∀ l', l' < 9 → 459 ≤ pu_En q l' ∧ pu_En q l' < 498 := fun l' h' => by unfold pu_En; omega
  have hk444 : ∀ {σ1 : tw_Sg}, pu_fr (fun k => pu_F9 k ∨ k = pu_En q (l + 1)) σ σ1 → σ1 444 = σ 444 := fun hF => hF 444 (by unfold pu_F9 pu_En; omega)
  have hkl : ∀ {σ1 : tw_Sg}, pu_fr (fun k => pu_F9 k ∨ k = pu_En q (l + 1)) σ σ1 → σ1 (pu_En q l) = σ (pu_En q l) := fun hF => hF _ (by unfold pu_F9 pu_En; omega)
  refine pu_lp (J := fun s => ∃ c, c ≤ w * h ∧ s.1 = Int32.ofNat c ∧ pu_es s.2 (pu_En q (l + 1)) (w * h) (fun d => ∃ c', c' < c ∧ pu_Fw (σ 444) w h nb q l c' ∧ pu_E (σ 444) w h nb q l c' d) ∧ pu_fr (fun k => pu_F9 k ∨ k = pu_En q (l + 1)) σ s.2) (m := fun s => w * h - s.1.toNatClampNeg) ?_ n _ (by show w * h - _ < n; omega) ⟨0, by omega, rfl, pu_es_ext h2 (fun d _ => ⟨fun z => z.elim, fun ⟨c', z, _⟩ => absurd z (Nat.not_lt_zero _)⟩), pu_fr_refl⟩
  rintro k3 ⟨cc, σ1⟩ ⟨c, hc, e1, hS, hF⟩ hk3
  dsimp only [] at e1 hS hF
  subst e1
  dsimp only []
  have e4 := hk444 hF
  refine pu_bde (pu_rcells (σ := σ1) (w := w) (h := h) (by rw [e4]; exact hm)) ?_
  refine pu_if (fun hc1 => ?_) (fun hc1 => ?_)
  · have hc1 := (pu_le (by omega) (by omega)).mp hc1
    have : c = w * h := by omega
    subst this
    exact pu_some ⟨pu_es_ext hS (fun d _ => Iff.rfl), hF⟩
  · have hc1 : c < w * h := by rw [pu_le (by omega) (by omega)] at hc1; omega
    refine pu_ck (pu_ok (by omega) (by omega)) (pu_ck (pu_ok (by omega) (by omega)) (pu_ck (pu_ok (by omega) (by omega)) ?_))
    have em : Int32.ofNat c + (1 : Int32) = Int32.ofNat (c + 1) := pu_add c 1
    refine pu_jn (R := fun v => ∃ L : List (Nat × Nat), v.1 = Int32.ofNat L.length ∧ L.length ≤ 36 ∧ pu_hasL v.2 L ∧ (∀ x ∈ L, x.1 < w * h) ∧ (∀ d, (∃ j, (d, j) ∈ L) ↔ (pu_Fw (σ 444) w h nb q l c ∧ pu_E (σ 444) w h nb q l c d)) ∧ pu_es v.2 (pu_En q (l + 1)) (w * h) (fun d => ∃ c', c' < c ∧ pu_Fw (σ 444) w h nb q l c' ∧ pu_E (σ 444) w h nb q l c' d) ∧ pu_fr (fun k => pu_F9 k ∨ k = pu_En q (l + 1)) σ v.2) (fun v hv => ?_) (fun f hf => ?_)
    · obtain ⟨len, σ2⟩ := v
      obtain ⟨L, e1, hL36, hL, hLm, hLE, hS2, hF2⟩ := hv
      dsimp only [] at e1 hL hS2 hF2
      subst e1
      refine pu_lt (pu_lt ?_)
      refine pu_lp (J := fun s => ∃ i, i ≤ L.length ∧ s.2.1 = Int32.ofNat i ∧ s.1 = Int32.ofNat c ∧ pu_hasL s.2.2 L ∧ pu_es s.2.2 (pu_En q (l + 1)) (w * h) (fun d => (∃ c', c' < c ∧ pu_Fw (σ 444) w h nb q l c' ∧ pu_E (σ 444) w h nb q l c' d) ∨ ∃ j x, j < i ∧ L[j]? = some x ∧ x.1 = d) ∧ pu_fr (fun k => pu_F9 k ∨ k = pu_En q (l + 1)) σ s.2.2) (m := fun s => 40 - s.2.1.toNatClampNeg) ?_ n _ (by show 40 - _ < n; omega) ⟨0, by omega, rfl, rfl, hL, pu_es_ext hS2 (fun d _ => ⟨Or.inl, fun z => z.elim id (fun ⟨j, x, y, _⟩ => absurd y (Nat.not_lt_zero _))⟩), hF2⟩
      rintro k12 ⟨cc, ii, σ3⟩ ⟨i, hi, e1, e2, hL3, hS3, hF3⟩ hk12
      dsimp only [] at e1 e2 hL3 hS3 hF3
      subst e1; subst e2
      dsimp only []
      refine pu_if (fun hi1 => ?_) (fun hi1 => ?_)
      · have hi1 := (pu_le (by omega) (by omega)).mp hi1
        refine pu_lt ?_
        rw [em]
        refine hk3 _ ⟨c + 1, by omega, rfl, pu_es_ext hS3 (fun d _ => ⟨fun z => ?_, fun z => ?_⟩), hF3⟩ ?_
        · rcases z with ⟨c', z1, z2⟩ | ⟨j, x, z1, z2, z3⟩
          · exact ⟨c', by omega, z2⟩
          · have hx : x ∈ L := List.mem_of_getElem? z2
            exact ⟨c, by omega, (hLE d).mp ⟨x.2, by rw [← z3]; exact hx⟩⟩
        · obtain ⟨c', z1, z2, z3⟩ := z
          by_cases e : c' = c
          · subst e
            obtain ⟨j, hj⟩ := (hLE d).mpr ⟨z2, z3⟩
            obtain ⟨j', hj'⟩ := List.getElem?_of_mem hj
            refine Or.inr ⟨j', (d, j), ?_, hj', rfl⟩
            have := (List.getElem?_eq_some_iff.mp hj').1
            omega
          · exact Or.inl ⟨c', by omega, z2, z3⟩
        · show w * h - (Int32.ofNat (c + 1)).toNatClampNeg < w * h - (Int32.ofNat c).toNatClampNeg
          rw [pu_n (by omega), pu_n (by omega)]
          omega
      · have hi1 : i < L.length := by rw [pu_le (by omega) (by omega)] at hi1; omega
        obtain ⟨x, hx⟩ : ∃ x, L[i]? = some x := ⟨L[i], List.getElem?_eq_getElem hi1⟩
        have hxm := hLm x (List.mem_of_getElem? hx)
        obtain ⟨y1, y2⟩ := hL3 i x hx
        refine pu_ck (pu_ok (by omega) (by omega)) (pu_ck (pu_ok (by omega) (by omega)) (pu_ck (pu_ok (by omega) (by omega)) ?_))
        rw [pu_n (show i < 2147483648 by omega), y1]
        refine pu_ck (pu_ok (by omega) (by omega)) (pu_lt (pu_lt ?_))
        rw [pu_n (show x.1 < 2147483648 by omega)]
        have ei : Int32.ofNat i + (1 : Int32) = Int32.ofNat (i + 1) := pu_add i 1
        rw [ei]
        have hE5 := hEr (l + 1) (by omega)
        refine hk12 _ ⟨i + 1, by omega, rfl, rfl, fun j z hz => ?_, pu_es_ext (pu_es_set hS3) (fun d _ => ⟨fun z => ?_, fun z => ?_⟩), pu_fr_trans hF3 (pu_fr_up (Or.inr rfl))⟩ ?_
        · show tw_up σ3 _ _ _ 455 j = _ ∧ tw_up σ3 _ _ _ 456 j = _
          rw [tw_up_n (by omega), tw_up_n (by omega)]
          exact hL3 j z hz
        · rcases z with (z | ⟨j, y, z1, z2⟩) | z
          · exact Or.inl z
          · exact Or.inr ⟨j, y, by omega, z2⟩
          · exact Or.inr ⟨i, x, by omega, hx, z.symm⟩
        · rcases z with z | ⟨j, y, z1, z2, z3⟩
          · exact Or.inl (Or.inl z)
          · by_cases e : j = i
            · subst e
              rw [hx] at z2
              cases z2
              exact Or.inr z3.symm
            · exact Or.inl (Or.inr ⟨j, y, by omega, z2, z3⟩)
        · show 40 - (Int32.ofNat (i + 1)).toNatClampNeg < 40 - (Int32.ofNat i).toNatClampNeg
          rw [pu_n (by omega), pu_n (by omega)]
          omega
    · rw [pu_n (show c < 2147483648 by omega)]
      have hv : σ1 (pu_En q l) c = pu_bi (pu_Fw (σ 444) w h nb q l c) := by rw [hkl hF]; exact h1 c hc1
      refine pu_if (fun hz => ?_) (fun hz => ?_)
      · rw [hv, pu_bi_0] at hz
        exact hf _ ⟨[], rfl, by decide, fun j x hx => by simp at hx, fun x hx => by simp at hx, fun d => ⟨fun ⟨j, hj⟩ => by simp at hj, fun z => absurd z.1 hz⟩, hS, hF⟩
      · rw [hv, pu_bi_0] at hz
        have hz := Classical.not_not.mp hz
        refine pu_bde pu_legAt ?_
        refine pu_bd (pu_layEnds (σ := σ1) (w := w) (h := h) (nb := nb) (nc := nc) (by rw [e4]; exact hm) (by rw [e4]; exact hb) (by rw [e4]; exact hcc) hq (by rw [e4]; exact hl) hc1 (by omega)) (fun r hr => ?_)
        obtain ⟨r1, r2, r3⟩ := hr
        rw [e4] at r1 r2
        refine hf (r.1, r.2) ⟨pu_L (σ 444) w h nb q l c, r1, ?_, r2, fun x hx => ?_, fun d => ?_, pu_es_cong hS (r3 _ (by unfold pu_F9 pu_En; omega)), pu_fr_trans hF (pu_fr_mono r3 (fun k hk => Or.inl hk))⟩
        · have := pu_el_len (a := σ 444) (w := w) (h := h) (nb := nb) (q := q) (l := l) (c := c) (pu_most (σ 444) q l + 1)
          by_cases hk0 : pu_kind (σ 444) q l = 0
          · have h5 : pu_most (σ 444) q l = pu_many (σ 444) q l + pu_give (σ 444) q l := by unfold pu_most; rw [if_pos hk0]
            obtain ⟨⟨-, m2⟩, ⟨-, m4⟩⟩ := ((hcq q hq).2.2.2.2 l hl).2.2.1 hk0
            have m2 : pu_many (σ 444) q l < 31 := m2
            have m4 : pu_give (σ 444) q l < 6 := m4
            unfold pu_L
            omega
          · have hone : ∀ i, (pu_el (σ 444) w h nb q l c i).length ≤ 1 := by
              intro i
              induction i with
              | zero => exact Nat.zero_le _
              | succ i ih =>
                rw [pu_el_S]
                split
                · split
                  · rename_i hcnd
                    rcases hcnd.2.2 with y | y
                    · exact absurd y hk0
                    · rw [y]; simp
                  · exact ih
                · exact ih
            have := hone (pu_most (σ 444) q l + 1)
            unfold pu_L
            omega
        · exact pu_E_lt hm hc1 (pu_L_E.mp ⟨x.2, hx⟩)
        · rw [pu_L_E]
          exact ⟨fun z => ⟨hz, z⟩, fun z => z.2⟩
/-- all sets laid -/
def pu_ends (σ : tw_Sg) (a : Nat → Int32) (w h nb nc : Nat) : Prop := ∀ q, q < nc → ∀ l, l ≤ pu_nl a q → pu_es σ (pu_En q l) (w * h) (pu_Fw a w h nb q l)
def pu_F11 (k : Nat) : Prop := k = 442 ∨ pu_F10 k
theorem pu_rlay {σ : tw_Sg} {w h nb nc n : Nat} (hm : pu_wfm (σ 444) w h) (hb : pu_wfb (σ 444) w h nb) (hcc : pu_wfc (σ 444) w h nc) (hn : 1000 < n) (hI : σ 442 22 = 0 ∨ (σ 442 22 = 1 ∧ pu_ends σ (σ 444) w h nb nc)) :
    pu_wp (tw_P_X12_lay n σ) (fun σ' => σ' 442 22 = 1 ∧ pu_ends σ' (σ 444) w h nb nc ∧ (∀ i, i ≠ 22 → σ' 442 i = σ 442 i) ∧ pu_fr pu_F11 σ σ') := by
  have hle := pu_wfm_le hm
  obtain ⟨e3, hnc, hcq⟩ := id hcc
  unfold tw_P_X12_lay
  rcases hI with hI | ⟨hI, hE⟩
  rotate_left
  · rw [hI]
    refine pu_iff (by decide) (pu_some ⟨hI, hE, fun _ _ => rfl, pu_fr_refl⟩)
  rw [hI]
  refine pu_ift rfl ?_
  refine pu_ltG (P := fun s => s 442 22 = 1 ∧ (∀ i, i ≠ 22 → s 442 i = σ 442 i) ∧ ∀ k, k ≠ 442 → s k = σ k) ⟨by rw [tw_up_s]; exact if_pos rfl, fun i hi => by rw [tw_up_s]; exact if_neg hi, fun k hk => tw_up_n hk⟩ (fun σ0 H0 => ?_)
  obtain ⟨g1, g2, g3⟩ := H0
  have ge4 : σ0 444 = σ 444 := g3 444 (by decide)
  refine pu_lt ?_
  -- what stays all along
  have hst : ∀ {s : tw_Sg}, pu_fr pu_F10 σ0 s → s 442 22 = 1 ∧ (∀ i, i ≠ 22 → s 442 i = σ 442 i) ∧ s 444 = σ 444 ∧ pu_fr pu_F11 σ s := by
    intro s hs
    have e442 : s 442 = σ0 442 := hs 442 (by unfold pu_F10 pu_F9; omega)
    refine ⟨by rw [e442]; exact g1, fun i hi => by rw [e442]; exact g2 i hi, by rw [hs 444 (by unfold pu_F10 pu_F9; omega)]; exact ge4, fun k hk => ?_⟩
    rw [hs k (fun z => hk (Or.inr z))]
    exact g3 k (fun e => hk (Or.inl e))
  have hEF : ∀ q l, q < 4 → l < 9 → pu_F10 (pu_En q l) := fun q l h1 h2 => Or.inr (by unfold pu_En; omega)
  have hEi : ∀ q l q' l', l < 9 → l' < 9 → (q ≠ q' ∨ l ≠ l') → pu_En q l ≠ pu_En q' l' := fun q l q' l' h1 h2 h3 => by unfold pu_En; omega
  rw [pu_l457, pu_nar0, pu_nar1]
  refine pu_lp (J := fun s => ∃ q, q ≤ nc ∧ s.1 = Int32.ofNat q ∧ (∀ q', q' < q → ∀ l, l ≤ pu_nl (σ 444) q' → pu_es s.2 (pu_En q' l) (w * h) (pu_Fw (σ 444) w h nb q' l)) ∧ pu_fr pu_F10 σ0 s.2) (m := fun s => 10 - s.1.toNatClampNeg) ?_ n _ (by show 10 - _ < n; omega) ⟨0, by omega, rfl, fun q' z => absurd z (Nat.not_lt_zero _), pu_fr_refl⟩
  rintro k4 ⟨qq, σ1⟩ ⟨q, hq, e1, hS, hF⟩ hk4
  dsimp only [] at e1 hS hF
  subst e1
  dsimp only []
  obtain ⟨-, -, e4, -⟩ := hst hF
  refine pu_ck (by rw [pu_l444]; exact pu_ok3) ?_
  refine pu_if (fun hc1 => ?_) (fun hc1 => ?_)
  · rw [pu_c3, e4, e3] at hc1
    have hc1 := (pu_le (by omega) (by omega)).mp hc1
    obtain ⟨y1, y2, -, y4⟩ := hst hF
    exact pu_some ⟨y1, fun q' hq' => hS q' (by omega), y2, y4⟩
  · rw [pu_c3, e4, e3] at hc1
    have hc1 : q < nc := by rw [pu_le (by omega) (by omega)] at hc1; omega
    obtain ⟨-, ⟨ens, hns⟩, ⟨enl, hnl⟩, -, -⟩ := hcq q hc1
    have hnl : pu_nl (σ 444) q < 9 := hnl
    have hns : pu_ns (σ 444) q < 9 := hns
    have ens : σ 444 (pu_cl q + 1) = Int32.ofNat (pu_ns (σ 444) q) := ens
    have hclq : pu_cl q + 1 < 1028 := by unfold pu_cl; omega
    have eq1 : Int32.ofNat q + (1 : Int32) = Int32.ofNat (q + 1) := pu_add q 1
    -- the rows of the clues before this one stay
    have hprev : ∀ {s : tw_Sg}, (∀ q', q' < q → ∀ l, l < 9 → s (pu_En q' l) = σ1 (pu_En q' l)) → ∀ q', q' < q → ∀ l, l ≤ pu_nl (σ 444) q' → pu_es s (pu_En q' l) (w * h) (pu_Fw (σ 444) w h nb q' l) := fun hs q' hq' l hl => pu_es_cong (hS q' hq' l hl) (hs q' hq' l (by have := (hcq q' (by omega)).2.2.1.2; have : pu_nl (σ 444) q' < 9 := this; omega))
    refine pu_lt ?_
    -- the rows of this clue are emptied
    refine pu_lp (J := fun s => ∃ l, l ≤ pu_nl (σ 444) q + 1 ∧ s.2.1 = Int32.ofNat l ∧ s.1 = Int32.ofNat q ∧ (∀ l', l' < l → pu_es s.2.2 (pu_En q l') (w * h) (fun _ => False)) ∧ (∀ q', q' < q → ∀ l, l < 9 → s.2.2 (pu_En q' l) = σ1 (pu_En q' l)) ∧ pu_fr pu_F10 σ0 s.2.2) (m := fun s => 20 - s.2.1.toNatClampNeg) ?_ n _ (by show 20 - _ < n; omega) ⟨0, by omega, rfl, rfl, fun l' z => absurd z (Nat.not_lt_zero _), fun _ _ _ _ => rfl, hF⟩
    rintro k7 ⟨qq, ll, σ2⟩ ⟨l, hl, e1, e2, hE2, hP2, hF2⟩ hk7
    dsimp only [] at e1 e2 hE2 hP2 hF2
    subst e1; subst e2
    dsimp only []
    obtain ⟨-, -, e42, -⟩ := hst hF2
    refine pu_bde (pu_legs (σ := σ2) (w := w) (h := h) (nc := nc) (by rw [e42]; exact hcc) hc1) ?_
    rw [e42]
    refine pu_if (fun hc2 => ?_) (fun hc2 => ?_)
    · have hc2 := (pu_ltn (by omega) (by omega)).mp hc2
      refine pu_lt ?_
      -- the starts
      refine pu_lp (J := fun s => ∃ k, k ≤ pu_ns (σ 444) q ∧ s.2.1 = Int32.ofNat k ∧ s.1 = Int32.ofNat q ∧ pu_es s.2.2 (pu_En q 0) (w * h) (fun d => ∃ k', k' < k ∧ pu_sc (σ 444) q k' = d) ∧ (∀ l', 0 < l' → l' ≤ pu_nl (σ 444) q → pu_es s.2.2 (pu_En q l') (w * h) (fun _ => False)) ∧ (∀ q', q' < q → ∀ l, l < 9 → s.2.2 (pu_En q' l) = σ1 (pu_En q' l)) ∧ pu_fr pu_F10 σ0 s.2.2) (m := fun s => 20 - s.2.1.toNatClampNeg) ?_ n _ (by show 20 - _ < n; omega) ⟨0, by omega, rfl, rfl, pu_es_ext (hE2 0 (by omega)) (fun d _ => ⟨fun z => z.elim, fun ⟨k', z, _⟩ => absurd z (Nat.not_lt_zero _)⟩), fun l' _ z => hE2 l' (by omega), hP2, hF2⟩
      rintro k11 ⟨qq, kk, σ3⟩ ⟨k, hk, e1, e2, hS3, hE3, hP3, hF3⟩ hk11
      dsimp only [] at e1 e2 hS3 hE3 hP3 hF3
      subst e1; subst e2
      dsimp only []
      obtain ⟨-, -, e43, -⟩ := hst hF3
      refine pu_bde pu_clueAt ?_
      have ea : Int32.ofNat (pu_cl q) + (1 : Int32) = Int32.ofNat (pu_cl q + 1) := pu_add _ 1
      rw [ea, pu_l444]
      refine pu_ck (pu_ok (by omega) hclq) ?_
      rw [pu_n (show pu_cl q + 1 < 2147483648 by omega)]
      refine pu_if (fun hc3 => ?_) (fun hc3 => ?_)
      · rw [e43, ens] at hc3
        have hc3 := (pu_le (by omega) (by omega)).mp hc3
        have : k = pu_ns (σ 444) q := by omega
        subst this
        refine pu_lt ?_
        -- the legs
        refine pu_lp (J := fun s => ∃ l, l ≤ pu_nl (σ 444) q ∧ s.2.1 = Int32.ofNat l ∧ s.1 = Int32.ofNat q ∧ (∀ l', l' ≤ l → pu_es s.2.2 (pu_En q l') (w * h) (pu_Fw (σ 444) w h nb q l')) ∧ (∀ l', l < l' → l' ≤ pu_nl (σ 444) q → pu_es s.2.2 (pu_En q l') (w * h) (fun _ => False)) ∧ (∀ q', q' < q → ∀ l, l < 9 → s.2.2 (pu_En q' l) = σ1 (pu_En q' l)) ∧ pu_fr pu_F10 σ0 s.2.2) (m := fun s => 20 - s.2.1.toNatClampNeg) ?_ n _ (by show 20 - _ < n; omega) ⟨0, by omega, rfl, rfl, fun l' z => by
            have : l' = 0 := by omega
            subst this
            exact hS3, fun l' z1 z2 => hE3 l' z1 z2, hP3, hF3⟩
        rintro k15 ⟨qq, ll, σ4⟩ ⟨l4, hl4, e1, e2, hS4, hE4, hP4, hF4⟩ hk15
        dsimp only [] at e1 e2 hS4 hE4 hP4 hF4
        subst e1; subst e2
        dsimp only []
        obtain ⟨-, -, e44, -⟩ := hst hF4
        refine pu_bde (pu_legs (σ := σ4) (w := w) (h := h) (nc := nc) (by rw [e44]; exact hcc) hc1) ?_
        rw [e44]
        refine pu_if (fun hc4 => ?_) (fun hc4 => ?_)
        · have hc4 := (pu_le (by omega) (by omega)).mp hc4
          refine pu_lt ?_
          rw [eq1]
          refine hk4 _ ⟨q + 1, by omega, rfl, fun q' hq' l hl => ?_, hF4⟩ ?_
          · by_cases e : q' = q
            · subst e; exact hS4 l (by omega)
            · exact hprev hP4 q' (by omega) l hl
          · show 10 - (Int32.ofNat (q + 1)).toNatClampNeg < 10 - (Int32.ofNat q).toNatClampNeg
            rw [pu_n (by omega), pu_n (by omega)]
            omega
        · have hc4 : l4 < pu_nl (σ 444) q := by rw [pu_le (by omega) (by omega)] at hc4; omega
          have h1 := hS4 l4 (Nat.le_refl _)
          have h2 := hE4 (l4 + 1) (by omega) (by omega)
          rw [← e44] at h1
          refine pu_bd (pu_layLeg (σ := σ4) (w := w) (h := h) (nb := nb) (nc := nc) (by rw [e44]; exact hm) (by rw [e44]; exact hb) (by rw [e44]; exact hcc) hc1 (by rw [e44]; exact hc4) hn h1 h2) (fun σ5 h5 => ?_)
          obtain ⟨y1, y2⟩ := h5
          rw [e44] at y1
          refine pu_lt ?_
          have em : Int32.ofNat l4 + (1 : Int32) = Int32.ofNat (l4 + 1) := pu_add l4 1
          rw [em]
          have hoth : ∀ q' l', l' < 9 → (q' ≠ q ∨ l' ≠ l4 + 1) → σ5 (pu_En q' l') = σ4 (pu_En q' l') := fun q' l' z1 z2 => y2 _ (by
            rintro (z | z)
            · unfold pu_F9 pu_En at z; omega
            · exact hEi q' l' q (l4 + 1) z1 (by omega) z2 z)
          refine hk15 _ ⟨l4 + 1, by omega, rfl, rfl, fun l' hl' => ?_, fun l' z1 z2 => pu_es_cong (hE4 l' (by omega) z2) (hoth q l' (by omega) (Or.inr (by omega))), fun q' hq' l' hl' => (hoth q' l' hl' (Or.inl (by omega))).trans (hP4 q' hq' l' hl'), pu_fr_trans hF4 (pu_fr_mono y2 (fun k hk => ?_))⟩ ?_
          · by_cases e : l' = l4 + 1
            · subst e; exact y1
            · exact pu_es_cong (hS4 l' (by omega)) (hoth q l' (by omega) (Or.inr e))
          · rcases hk with z | z
            · exact Or.inl z
            · rw [z]; exact hEF q (l4 + 1) (by omega) (by omega)
          · show 20 - (Int32.ofNat (l4 + 1)).toNatClampNeg < 20 - (Int32.ofNat l4).toNatClampNeg
            rw [pu_n (by omega), pu_n (by omega)]
            omega
      · rw [e43, ens] at hc3
        have hc3 : k < pu_ns (σ 444) q := by rw [pu_le (by omega) (by omega)] at hc3; omega
        refine pu_ck (pu_ok (by omega) (by omega)) ?_
        rw [pu_n (show q < 2147483648 by omega), pu_lE9 (by omega), pu_c0, show 457 + 1 + 10 * q + 1 + 1 * 0 = pu_En q 0 from by unfold pu_En; omega, pu_lE (by omega) (by omega)]
        refine pu_ck (by decide) ?_
        obtain ⟨s1, s2⟩ := pu_startOf (σ := σ3) (w := w) (h := h) (nc := nc) (k := k) (by rw [e43]; exact hm) (by rw [e43]; exact hcc) hc1 (by rw [e43]; exact hc3)
        rw [e43] at s1 s2
        refine pu_bde s1 ?_
        refine pu_ck (pu_ok (by omega) (by omega)) (pu_lt (pu_lt ?_))
        rw [pu_n (show pu_sc (σ 444) q k < 2147483648 by omega)]
        have em : Int32.ofNat k + (1 : Int32) = Int32.ofNat (k + 1) := pu_add k 1
        rw [em]
        refine hk11 _ ⟨k + 1, by omega, rfl, rfl, pu_es_ext (pu_es_set hS3) (fun d _ => ⟨fun z => ?_, fun z => ?_⟩), fun l' z1 z2 => pu_es_cong (hE3 l' z1 z2) (tw_up_n (hEi q l' q 0 (by omega) (by decide) (Or.inr (by omega)))), fun q' hq' l' hl' => (tw_up_n (hEi q' l' q 0 hl' (by decide) (Or.inl (by omega)))).trans (hP3 q' hq' l' hl'), pu_fr_trans hF3 (pu_fr_up (hEF q 0 (by omega) (by decide)))⟩ ?_
        · rcases z with ⟨k', z1, z2⟩ | z
          · exact ⟨k', by omega, z2⟩
          · exact ⟨k, by omega, z.symm⟩
        · obtain ⟨k', z1, z2⟩ := z
          by_cases e : k' = k
          · subst e; exact Or.inr z2.symm
          · exact Or.inl ⟨k', by omega, z2⟩
        · show 20 - (Int32.ofNat (k + 1)).toNatClampNeg < 20 - (Int32.ofNat k).toNatClampNeg
          rw [pu_n (by omega), pu_n (by omega)]
          omega
    · have hc2 : l ≤ pu_nl (σ 444) q := by rw [pu_ltn (by omega) (by omega)] at hc2; omega
      refine pu_lt ?_
      refine pu_lp (J := fun s => ∃ d, d ≤ w * h ∧ s.2.2.1 = Int32.ofNat d ∧ s.2.1 = Int32.ofNat l ∧ s.1 = Int32.ofNat q ∧ (∀ d', d' < d → s.2.2.2 (pu_En q l) d' = 0) ∧ (∀ k, k ≠ pu_En q l → s.2.2.2 k = σ2 k)) (m := fun s => w * h - s.2.2.1.toNatClampNeg) ?_ n _ (by show w * h - _ < n; omega) ⟨0, by omega, rfl, rfl, rfl, fun d' z => absurd z (Nat.not_lt_zero _), fun _ _ => rfl⟩
      rintro k27 ⟨qq, ll, dd, σ3⟩ ⟨d, hd, e1, e2, e3', hZ, hO⟩ hk27
      dsimp only [] at e1 e2 e3' hZ hO
      subst e1; subst e2; subst e3'
      dsimp only []
      have hF3 : pu_fr pu_F10 σ0 σ3 := fun k hk => by rw [hO k (fun e => hk (by rw [e]; exact hEF q l (by omega) (by omega)))]; exact hF2 k hk
      obtain ⟨-, -, e43, -⟩ := hst hF3
      refine pu_bde (pu_rcells (σ := σ3) (w := w) (h := h) (by rw [e43]; exact hm)) ?_
      refine pu_if (fun hc3 => ?_) (fun hc3 => ?_)
      · have hc3 := (pu_le (by omega) (by omega)).mp hc3
        refine pu_lt ?_
        have em : Int32.ofNat l + (1 : Int32) = Int32.ofNat (l + 1) := pu_add l 1
        rw [em]
        refine hk7 _ ⟨l + 1, by omega, rfl, rfl, fun l' hl' => ?_, fun q' hq' l' hl' => (hO _ (hEi q' l' q l hl' (by omega) (Or.inl (by omega)))).trans (hP2 q' hq' l' hl'), hF3⟩ ?_
        · by_cases e : l' = l
          · subst e
            intro x hx
            show σ3 _ x = _
            rw [hZ x (by omega), pu_bi_f (fun z => z)]
          · exact pu_es_cong (hE2 l' (by omega)) (hO _ (hEi q l' q l (by omega) (by omega) (Or.inr e)))
        · show 20 - (Int32.ofNat (l + 1)).toNatClampNeg < 20 - (Int32.ofNat l).toNatClampNeg
          rw [pu_n (by omega), pu_n (by omega)]
          omega
      · have hc3 : d < w * h := by rw [pu_le (by omega) (by omega)] at hc3; omega
        refine pu_ck (pu_ok (by omega) (by omega)) ?_
        rw [pu_n (show q < 2147483648 by omega), pu_lE9 (by omega), pu_n (show l < 2147483648 by omega), show 457 + 1 + 10 * q + 1 + 1 * l = pu_En q l from by unfold pu_En; omega, pu_lE (by omega) (by omega)]
        refine pu_ck (pu_ok (by omega) (by omega)) (pu_ck (pu_ok (by omega) (by omega)) (pu_lt (pu_lt ?_)))
        rw [pu_n (show d < 2147483648 by omega)]
        have em : Int32.ofNat d + (1 : Int32) = Int32.ofNat (d + 1) := pu_add d 1
        rw [em]
        refine hk27 _ ⟨d + 1, by omega, rfl, rfl, rfl, fun d' hd' => ?_, fun k hk => (tw_up_n hk).trans (hO k hk)⟩ ?_
        · show tw_up σ3 _ d 0 _ d' = 0
          rw [tw_up_s]
          unfold upd
          by_cases e : d' = d
          · rw [if_pos e]
          · rw [if_neg e]; exact hZ d' (by omega)
        · show w * h - (Int32.ofNat (d + 1)).toNatClampNeg < w * h - (Int32.ofNat d).toNatClampNeg
          rw [pu_n (by omega), pu_n (by omega)]
          omega
