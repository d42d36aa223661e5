/-! state -/
def pu_mks (a : Nat → Int32) : Nat → Bool := fun m => (pu_mk a m).isSome
def pu_uss (a : Nat → Int32) : Nat → Bool := fun q => decide (a (pu_cl q) = 1)
theorem pu_mk_lt {a : Nat → Int32} {w h nb nc m : Nat} (H : pu_WF a w h nb nc) (hm : m < 8) : ∀ d, pu_mk a m = some d → d < w * h := by
  intro d hd
  have hle := pu_wfm_le H.1
  unfold pu_mk at hd
  rcases H.2.2.2.1.2.2.1 m hm with z | ⟨z1, z2⟩
  · rw [if_pos z] at hd; cases hd
  · rw [if_neg (by rw [z1]; exact pu_nm1 (by omega))] at hd
    cases hd
    exact z2
theorem pu_ifb {b : Bool} : (if b = true then (1 : Int32) else 0) = pu_b1 b := rfl
theorem pu_sumI {p : Nat → Bool} {m : Nat} : Int32.ofNat (pu_sum p m) + pu_b1 (p m) = Int32.ofNat (pu_sum p (m + 1)) := by
  rw [pu_sum_S]
  cases p m
  · exact pu_add _ 0
  · exact pu_add _ 1
theorem pu_cmarks {σ : tw_Sg} {a : Nat → Int32} {w h nb nc n : Nat} (H : pu_WF a w h nb nc) (C : pu_CC σ a w h nb nc) (hn : 30 < n) : tw_P_X2_countMarks n 1 σ = some (Int32.ofNat (pu_sum (pu_mks a) 8)) := by
  obtain ⟨-, -, w1, w2, h1, h2⟩ := id H.1
  have key : pu_wp (tw_P_X2_countMarks n 1 σ) (fun v => v = Int32.ofNat (pu_sum (pu_mks a) 8)) := by
    unfold tw_P_X2_countMarks
    refine pu_lt (pu_lt ?_)
    refine pu_lp (J := fun s => ∃ m, m ≤ 8 ∧ s.2 = Int32.ofNat m ∧ s.1 = Int32.ofNat (pu_sum (pu_mks a) m)) (m := fun s => 8 - s.2.toNatClampNeg) ?_ n _ (by show 8 - _ < n; omega) ⟨0, by omega, rfl, rfl⟩
    rintro k4 ⟨tt, mm⟩ ⟨m, hm, e1, e2⟩ hk4
    dsimp only [] at e1 e2
    subst e1; subst e2
    dsimp only []
    refine pu_if (fun c1 => ?_) (fun c1 => ?_)
    · have c1 := (pu_le (a := 8) (by omega) (by omega)).mp c1
      have : m = 8 := by omega
      subst this
      exact pu_some rfl
    · have c1 : m < 8 := Nat.lt_of_not_le (fun z => c1 ((pu_le (a := 8) (b := m) (by omega) (by omega)).mpr z))
      refine pu_bde (pu_get (th := 1 + 5) (i := m) (N := 8) (by decide +kernel) (by decide) c1) ?_
      have e7 : σ (1 + 5 + 1) m = pu_eS w (pu_mk a m) := C.1.2.2.2.1 m c1
      rw [e7]
      refine pu_jn (R := fun v => v = pu_b1 (pu_mks a m)) (fun v hv => ?_) (fun f hf => ?_)
      · subst hv
        refine pu_lt (pu_lt ?_)
        have em : Int32.ofNat m + (1 : Int32) = Int32.ofNat (m + 1) := pu_add m 1
        rw [em, pu_sumI]
        refine hk4 _ ⟨m + 1, by omega, rfl, rfl⟩ ?_
        show 8 - (Int32.ofNat (m + 1)).toNatClampNeg < 8 - (Int32.ofNat m).toNatClampNeg
        rw [pu_n (by omega), pu_n (by omega)]
        omega
      · have hz := pu_eS0 (w := w) (h := h) w2 h2 (pu_mk_lt H c1)
        refine pu_if (fun c2 => hf _ ?_) (fun c2 => hf _ ?_)
        · rw [hz] at c2
          unfold pu_mks
          cases e : pu_mk a m with
          | none => exact absurd e c2
          | some d => rfl
        · have c2 := hz.mp (Classical.not_not.mp c2)
          unfold pu_mks
          rw [c2]; rfl
  obtain ⟨r, h1, h2⟩ := key
  rw [h1, h2]
theorem pu_cused {σ : tw_Sg} {a : Nat → Int32} {w h nb nc n : Nat} (H : pu_WF a w h nb nc) (C : pu_CC σ a w h nb nc) (hn : 30 < n) : tw_P_X1_countUsed n 14 σ = some (Int32.ofNat (pu_sum (pu_uss a) nc)) := by
  obtain ⟨dw, dh, dn⟩ := pu_CCdim H C
  have h4 := H.2.2.1.2.1
  have key : pu_wp (tw_P_X1_countUsed n 14 σ) (fun v => v = Int32.ofNat (pu_sum (pu_uss a) nc)) := by
    unfold tw_P_X1_countUsed
    rw [dn]
    refine pu_lt (pu_lt ?_)
    refine pu_lp (J := fun s => ∃ m, m ≤ nc ∧ s.2 = Int32.ofNat m ∧ s.1 = Int32.ofNat (pu_sum (pu_uss a) m)) (m := fun s => 8 - s.2.toNatClampNeg) ?_ n _ (by show 8 - _ < n; omega) ⟨0, by omega, rfl, rfl⟩
    rintro k4 ⟨tt, mm⟩ ⟨m, hm, e1, e2⟩ hk4
    dsimp only [] at e1 e2
    subst e1; subst e2
    dsimp only []
    refine pu_if (fun c1 => ?_) (fun c1 => ?_)
    · have c1 := (pu_le (by omega) (by omega)).mp c1
      have : m = nc := by omega
      subst this
      exact pu_some rfl
    · have c1 : m < nc := by rw [pu_le (by omega) (by omega)] at c1; omega
      refine pu_bde (pu_isUsed H.2.2.1 C.1 c1) ?_
      refine pu_jn (R := fun v => v = pu_b1 (pu_uss a m)) (fun v hv => ?_) (fun f hf => ?_)
      · subst hv
        refine pu_lt (pu_lt ?_)
        have em : Int32.ofNat m + (1 : Int32) = Int32.ofNat (m + 1) := pu_add m 1
        rw [em, pu_sumI]
        refine hk4 _ ⟨m + 1, by omega, rfl, rfl⟩ ?_
        show 8 - (Int32.ofNat (m + 1)).toNatClampNeg < 8 - (Int32.ofNat m).toNatClampNeg
        rw [pu_n (by omega), pu_n (by omega)]
        omega
      · by_cases u : a (pu_cl m) = 1
        · rw [if_pos u]
          exact pu_iff (by decide) (hf _ (by rw [show pu_uss a m = true from decide_eq_true u]; rfl))
        · rw [if_neg u]
          exact pu_ift rfl (hf _ (by rw [show pu_uss a m = false from decide_eq_false u]; rfl))
  obtain ⟨r, h1, h2⟩ := key
  rw [h1, h2]
/-- what state tells; P: the number of parts -/
noncomputable def pu_tv (a : Nat → Int32) (w h nb nc P : Nat) : Nat → Int32
  | 0 => a 0
  | 1 => a 1
  | 2 => Int32.ofNat (pu_sum (pu_mks a) 8)
  | 3 => a 2
  | 4 => a 3
  | 5 => Int32.ofNat (pu_sum (pu_uss a) nc)
  | 6 => Int32.ofNat (pu_sum (pu_cand a w h nb nc) (w * h))
  | 7 => Int32.ofNat (pu_sum (pu_left a w h nb nc) (w * h))
  | 8 => Int32.ofNat (pu_sum (pu_dug a) (w * h))
  | 9 => Int32.ofNat P
  | 10 => a 4
  | 11 => a 5
  | 12 => a 6
  | _ => 0
noncomputable def pu_oState (a : Nat → Int32) (w h nb nc P : Nat) (x : Int32) : Int32 ⊕ Int32 := if 0 ≤ x.toInt ∧ x.toInt ≤ 12 then .inl (pu_tv a w h nb nc P x.toNatClampNeg) else .inr 1
theorem pu_cstate {σ : tw_Sg} {a : Nat → Int32} {w h nb nc P n : Nat} {x : Int32} (H : pu_WF a w h nb nc) (C : pu_CC σ a w h nb nc) (hn : 30 < n) (hP : pu_wp (tw_P_X8_countParts n σ) (fun r => r.1 = Int32.ofNat P ∧ pu_fr pu_SQ σ r.2)) : pu_wp (tw_P_L_state n x σ) (pu_QC σ (pu_oState a w h nb nc P x)) := by
  obtain ⟨dw, dh, dn⟩ := pu_CCdim H C
  obtain ⟨-, -, w1, w2, h1, h2⟩ := id H.1
  obtain ⟨t1, t2, -⟩ := pu_team H
  have hm400 := pu_wfm_le H.1
  obtain ⟨⟨d0, d1, d5, d11, d12, d13, -, -⟩, -⟩ := id C.1
  unfold tw_P_L_state
  refine pu_bcw (R := fun r => (r = .inr "java/lang/IllegalArgumentException" ∧ pu_oState a w h nb nc P x = .inr 1) ∨ ∃ v s, r = .inl (v, s) ∧ pu_oState a w h nb nc P x = .inl v ∧ pu_fr pu_SQ σ s) ?_ (fun v hv => ?_) (fun s hs => ?_)
  · unfold tw_P_X11_state
    have ok : ∀ {v : Int32} {s : tw_Sg}, pu_oState a w h nb nc P x = .inl v → pu_fr pu_SQ σ s → ((Sum.inl (v, s) : (Int32 × tw_Sg) ⊕ String) = .inr "java/lang/IllegalArgumentException" ∧ pu_oState a w h nb nc P x = .inr 1) ∨ ∃ v' s', (Sum.inl (v, s) : (Int32 × tw_Sg) ⊕ String) = .inl (v', s') ∧ pu_oState a w h nb nc P x = .inl v' ∧ pu_fr pu_SQ σ s' := fun h1 h2 => Or.inr ⟨_, _, rfl, h1, h2⟩
    have hF : ∀ {s : tw_Sg}, pu_fr (fun k => k = 141) σ s → pu_fr pu_SQ σ s := fun hs => pu_fr_mono hs (fun k hk => by unfold pu_SQ; omega)
    refine pu_if (fun c0 => ?_) (fun c0 => ?_)
    · subst c0; exact pu_some (ok ((if_pos (by decide)).trans (congrArg Sum.inl d0.symm)) pu_fr_refl)
    refine pu_if (fun c1 => ?_) (fun c1 => ?_)
    · subst c1; exact pu_some (ok ((if_pos (by decide)).trans (congrArg Sum.inl d1.symm)) pu_fr_refl)
    refine pu_if (fun c2 => ?_) (fun c2 => ?_)
    · subst c2; exact pu_bde (pu_cmarks H C hn) (pu_some (ok (if_pos (by decide)) pu_fr_refl))
    refine pu_if (fun c3 => ?_) (fun c3 => ?_)
    · subst c3; exact pu_some (ok ((if_pos (by decide)).trans (congrArg Sum.inl d5.symm)) pu_fr_refl)
    refine pu_if (fun c4 => ?_) (fun c4 => ?_)
    · subst c4; exact pu_some (ok ((if_pos (by decide)).trans (congrArg Sum.inl d13.symm)) pu_fr_refl)
    refine pu_if (fun c5 => ?_) (fun c5 => ?_)
    · subst c5; exact pu_bde (pu_cused H C hn) (pu_some (ok (if_pos (by decide)) pu_fr_refl))
    refine pu_if (fun c6 => ?_) (fun c6 => ?_)
    · subst c6
      refine pu_bd (pu_candidates H.1 H.2.1.2.1 H.2.2.1 C.1 C.2.1 hn) (fun r hr => ?_)
      obtain ⟨r1, r2, r3⟩ := hr
      exact pu_ck (by rw [r1]; rfl) (pu_bde (pu_ccount pu_kd140 w2 h2 r2 hn) (pu_some (ok (if_pos (by decide)) (hF r3))))
    refine pu_if (fun c7 => ?_) (fun c7 => ?_)
    · subst c7
      refine pu_bd (pu_cleft H.1 H.2.1.2.1 H.2.2.1 C.1 C.2.1 hn) (fun r hr => ?_)
      obtain ⟨r1, r2, r3⟩ := hr
      exact pu_ck (by rw [r1]; rfl) (pu_bde (pu_ccount pu_kd140 w2 h2 r2 hn) (pu_some (ok (if_pos (by decide)) (hF r3))))
    refine pu_if (fun c8 => ?_) (fun c8 => ?_)
    · subst c8; exact pu_bde (pu_ccount pu_kd4 w2 h2 C.1.2.2.1 hn) (pu_some (ok (if_pos (by decide)) pu_fr_refl))
    refine pu_if (fun c9 => ?_) (fun c9 => ?_)
    · subst c9
      refine pu_bd hP (fun r hr => ?_)
      rw [hr.1]
      exact pu_some (ok (if_pos (by decide)) hr.2)
    refine pu_if (fun c10 => ?_) (fun c10 => ?_)
    · subst c10
      rw [pu_cteam H C.1]
      exact pu_bde (pu_numberOf dw w1 w2 (by omega)) (pu_some (ok ((if_pos (by decide)).trans (congrArg Sum.inl t1)) pu_fr_refl))
    refine pu_if (fun c11 => ?_) (fun c11 => ?_)
    · subst c11; exact pu_some (ok ((if_pos (by decide)).trans (congrArg Sum.inl d11.symm)) pu_fr_refl)
    refine pu_if (fun c12 => ?_) (fun c12 => ?_)
    · subst c12; exact pu_some (ok ((if_pos (by decide)).trans (congrArg Sum.inl d12.symm)) pu_fr_refl)
    refine pu_some (Or.inl ⟨rfl, if_neg (fun z => ?_)⟩)
    obtain ⟨b1, b2, b3⟩ := pu_back (x := x) z.1
    have hb : x.toNatClampNeg ≤ 12 := by omega
    generalize x.toNatClampNeg = j at b1 hb
    subst b1
    have : j = 0 ∨ j = 1 ∨ j = 2 ∨ j = 3 ∨ j = 4 ∨ j = 5 ∨ j = 6 ∨ j = 7 ∨ j = 8 ∨ j = 9 ∨ j = 10 ∨ j = 11 ∨ j = 12 := by omega
    rcases this with e | e | e | e | e | e | e | e | e | e | e | e | e <;> subst e
    · exact c0 rfl
    · exact c1 rfl
    · exact c2 rfl
    · exact c3 rfl
    · exact c4 rfl
    · exact c5 rfl
    · exact c6 rfl
    · exact c7 rfl
    · exact c8 rfl
    · exact c9 rfl
    · exact c10 rfl
    · exact c11 rfl
    · exact c12 rfl
  · rcases hv with ⟨z, -⟩ | ⟨u, s, z, ho, hf⟩
    · cases z
    · cases z
      exact pu_tell ho hf
  · rcases hs with ⟨z, ho⟩ | ⟨u, s, z, -⟩
    · cases z
      exact pu_ift rfl (pu_some (pu_fault ho))
    · cases z
