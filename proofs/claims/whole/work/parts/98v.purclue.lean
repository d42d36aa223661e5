/-! the reference: a clue, a statement -/
section RCL
variable {σ σ0 : tw_Sg} {B : Nat → Nat} {L p n w h q : Nat} {E : Option (Int32 × Nat)} {A A' : Nat → Int32}
/-- how much is left to read -/
def pu_mz (B : Nat → Nat) (L : Nat) (t : tw_Sg) : Nat := if t 442 5 = 0 then 1 + (L - pu_sk B L (t 442 4).toNatClampNeg) else 0
theorem pu_mz0 (H : pu_SR B L σ0 A none p σ) : pu_mz B L σ = 1 + (L - p) ∧ p ≤ L ∧ L ≤ 600 := by
  obtain ⟨⟨a1, a2, a3⟩, -⟩ := H
  obtain ⟨b1, p', b2, b3, b4⟩ := a3 rfl
  have hL := a1.2.1
  refine ⟨?_, b1, hL⟩
  unfold pu_mz
  rw [if_pos a2.1, b3, pu_n (by omega), b4]
theorem pu_mz1 {e : Int32 × Nat} (H : pu_SR B L σ0 A (some e) p σ) : pu_mz B L σ = 0 := if_neg (fun z => H.1.2.1.2.1 (H.1.2.1.1.symm.trans z))
theorem pu_SR_L (H : pu_SR B L σ0 A E p σ) : L ≤ 600 := H.1.1.2.1
theorem pu_mz_lt {t : tw_Sg} {E' : Option (Int32 × Nat)} {p' : Nat} (H : pu_SR B L σ0 A none p σ) (H' : pu_SR B L σ0 A' E' p' t) (hp : E' = none → p < p') : pu_mz B L t < pu_mz B L σ := by
  obtain ⟨h1, h2, -⟩ := pu_mz0 H
  cases E' with
  | none =>
    obtain ⟨h3, h4, -⟩ := pu_mz0 H'
    have := hp rfl
    omega
  | some e =>
    rw [pu_mz1 H']
    omega
theorem pu_srLegs {X X3 : pu_Xs} {s : tw_Sg} {v : Int32} (HX : pu_SR B L σ0 X.2.2 X.1 X.2.1 s) (WX : X.1 = none → pu_AQ X.2.2 w h q) (hv : v = if X.1 = none then 1 else 0) (hX : pu_gs B L q (L + 1) X = X3) (hq : q < 4) (hn : 2000 < n) : pu_wp (tw_lp (fun (k13 : (Int32 × tw_Sg) → Option (tw_Sg)) (a12 : Int32 × tw_Sg) =>
if a12.1 = 0 then (tw_bd (tw_P_X12_isGood a12.2) (fun r14 =>
if ¬ r14 = 0 then (tw_ck (tw_ok ((Int32.ofNat (pu_cl q)) + (0 : Int32)) (tw_ln 445)) (tw_lt (tw_up a12.2 445 (Int32.toNatClampNeg ((Int32.ofNat (pu_cl q)) + (0 : Int32))) (1 : Int32)) (fun (σ15 : tw_Sg) =>
tw_ck (tw_ok (3 : Int32) (tw_ln 445)) (
tw_ck (tw_ok (3 : Int32) (tw_ln 445)) (tw_lt (tw_up σ15 445 (Int32.toNatClampNeg (3 : Int32)) ((σ15 445 (Int32.toNatClampNeg (3 : Int32))) + (1 : Int32))) (fun (σ16 : tw_Sg) =>
some σ16))))))
else (some a12.2)))
else (tw_bd (tw_P_X12_ahead n a12.2) (fun r17 =>
tw_lt (r17.2 442 4) (fun (v18 : Int32) =>
tw_bd (tw_P_X12_takeWord n 9 r17.2) (fun r19 =>
tw_jn (fun (a20 : Int32 × tw_Sg) =>
tw_lt a20.1 (fun (v22 : Int32) =>
tw_jn (fun (a23 : Int32) =>
tw_lt a23 (fun (v25 : Int32) =>
tw_jn (fun (a26 : tw_Sg) =>
tw_jn (fun (a28 : tw_Sg) =>
tw_jn (fun (a30 : Int32) =>
tw_lt a30 (fun (v32 : Int32) =>
k13 (v32, a28))) (fun (j31 : (Int32) → Option (tw_Sg)) =>
tw_jn (fun (a33 : Unit) =>
j31 (0 : Int32)) (fun (j34 : (Unit) → Option (tw_Sg)) =>
if v25 = 0 then (j34 ())
else (tw_bd (tw_P_X12_isGood a28) (fun r35 =>
if r35 = 0 then (j34 ())
else (j31 (1 : Int32))))))) (fun (j29 : (tw_Sg) → Option (tw_Sg)) =>
if v25 = 0 then (j29 a26)
else (tw_bd (tw_P_X12_isGood a26) (fun r36 =>
if r36 = 0 then (j29 a26)
else (tw_bd (tw_P_X12_readLeg n (Int32.ofNat (pu_cl q)) v22 a26) (fun r37 =>
j29 r37)))))) (fun (j27 : (tw_Sg) → Option (tw_Sg)) =>
if v25 = 0 then (j27 a20.2)
else (tw_ck (tw_ok ((Int32.ofNat (pu_cl q)) + (2 : Int32)) (tw_ln 445)) (
if ¬ (a20.2 445 (Int32.toNatClampNeg ((Int32.ofNat (pu_cl q)) + (2 : Int32)))) = (8 : Int32) then (j27 a20.2)
else (tw_bd (tw_P_X12_report (-6 : Int32) v18 a20.2) (fun r38 =>
j27 r38))))))) (fun (j24 : (Int32) → Option (tw_Sg)) =>
if v22 = (-1 : Int32) then (j24 (0 : Int32))
else (j24 (1 : Int32))))) (fun (j21 : (Int32 × tw_Sg) → Option (tw_Sg)) =>
if r19.1 = 0 then (tw_bd (tw_P_X12_takeWord n 10 r19.2) (fun r39 =>
if r39.1 = 0 then (tw_bd (tw_P_X12_takeWord n 11 r39.2) (fun r40 =>
if r40.1 = 0 then (j21 ((-1 : Int32), r40.2))
else (j21 ((2 : Int32), r40.2))))
else (j21 ((1 : Int32), r39.2))))
else (j21 ((0 : Int32), r19.2)))))))) n (v, s)) (pu_SR B L σ0 (pu_aC X3.2.2 q) X3.1 X3.2.1) := by
  have hcl : 856 ≤ pu_cl q ∧ pu_cl q + 43 ≤ 1028 := by unfold pu_cl; omega
  have hL := pu_SR_L HX
  have hB := pu_SR_B HX
  have hms : pu_mz B L s ≤ 601 := by
    cases hE : X.1 with
    | none => have := (pu_mz0 (pu_SR_c HX hE.symm)).1; omega
    | some e => have := pu_mz1 (pu_SR_c HX hE.symm); omega
  rw [pu_l445]
  refine pu_lp (J := fun x => ∃ f X, pu_gs B L q f X = X3 ∧ pu_SR B L σ0 X.2.2 X.1 X.2.1 x.2 ∧ ((x.1 = 1 ∧ X.1 = none) ∨ (x.1 = 0 ∧ ¬ (X.1 = none ∧ pu_la B L X.2.1 = true))) ∧ (X.1 = none → pu_AQ X.2.2 w h q ∧ L < f + X.2.1)) (m := fun x => 2 * pu_mz B L x.2 + (if x.1 = 0 then 0 else 1)) ?_ n _ ?_ ⟨L + 1, X, hX, HX, ?_, fun z => ⟨WX z, by omega⟩⟩
  rotate_left
  · show 2 * pu_mz B L s + (if v = 0 then 0 else 1) < n
    split <;> omega
  · cases hE : X.1 with
    | none => rw [if_pos hE] at hv; exact Or.inl ⟨hv, rfl⟩
    | some e => rw [if_neg (by rw [hE]; intro z; cases z)] at hv; exact Or.inr ⟨hv, fun z => by cases z.1⟩
  clear HX WX hX hv hms
  rintro k13 ⟨vv, s⟩ ⟨f, X, hX, HX, hv, hF⟩ hk13
  dsimp only [] at HX hv
  dsimp only []
  refine pu_if (fun c => ?_) (fun c => ?_)
  · -- the end
    have hu : ¬ (X.1 = none ∧ pu_la B L X.2.1 = true) := by
      rcases hv with ⟨z, -⟩ | ⟨-, z⟩
      · rw [c] at z; exact absurd z (by decide)
      · exact z
    rw [pu_gs_e hu] at hX
    subst hX
    cases hE : X.1 with
    | some e =>
      have H' := pu_SR_c HX hE.symm
      exact pu_bde (pu_SR_g0 H') (pu_iff (fun z => z rfl) (pu_some (pu_SR_any H')))
    | none =>
      have H' := pu_SR_c HX hE.symm
      have WQ := (hF hE).1
      refine pu_bde (pu_SR_g1 H') (pu_ift pu_10 ?_)
      rw [show Int32.ofNat (pu_cl q) + (0 : Int32) = Int32.ofNat (pu_cl q) from pu_add _ 0, pu_n (show pu_cl q < 2147483648 by omega), show Int32.toNatClampNeg (3 : Int32) = 3 from rfl]
      refine pu_ck (pu_ok (by omega) (by omega)) (pu_ltG (pu_SR_put H' (by omega) (by omega)) (fun s1 S1 => ?_))
      rw [show s1 445 3 = Int32.ofNat q from by rw [pu_sr445 S1 rfl (by decide), pu_upd_n (by omega)]; exact WQ.1.2.2.1.1, show Int32.ofNat q + (1 : Int32) = Int32.ofNat (q + 1) from pu_add _ 1]
      exact pu_ck (by decide) (pu_ck (by decide) (pu_lt (pu_some (pu_SR_put S1 (by decide) (by decide)))))
  obtain ⟨hv1, hE⟩ : vv = 1 ∧ X.1 = none := by
    rcases hv with z | ⟨z, -⟩
    · exact z
    · exact absurd z c
  subst hv1
  obtain ⟨E, p, A⟩ := X
  have hE : E = none := hE
  subst hE
  obtain ⟨WQ, hf⟩ := hF rfl
  dsimp only [] at HX WQ hf
  clear hF hv c
  refine pu_bd (pu_srH HX hn) (fun r17 hr => pu_lt ?_)
  obtain ⟨-, H17, e4, -⟩ := hr
  rw [e4]
  refine pu_bd (pu_srW (q := 9) H17 (by decide) hn) (fun r19 h19 => ?_)
  refine pu_jn (R := fun a => (pu_la B L p = true → a.1 = Int32.ofNat (pu_lk B L p) ∧ pu_SR B L σ0 A none (pu_nx B L p) a.2) ∧ (¬ pu_la B L p = true → a.1 = -1 ∧ pu_SR B L σ0 A none p a.2)) (fun a20 ha => pu_lt ?_) (fun g hg => ?_)
  rotate_left
  · by_cases c9 : pu_isW B L p 9 = true
    · obtain ⟨y1, y2⟩ := h19.1 ⟨rfl, c9⟩
      have e1 : pu_lk B L p = 0 := by unfold pu_lk; rw [if_pos c9]
      have e2 : pu_la B L p = true := by unfold pu_la; rw [c9]; rfl
      exact pu_iff (by rw [y1]; exact pu_10) (hg _ ⟨fun _ => ⟨by rw [e1]; rfl, y2⟩, fun z => absurd e2 z⟩)
    obtain ⟨y1, y2, -⟩ := h19.2.1 (fun z => c9 z.2)
    refine pu_ift y1 (pu_bd (pu_srW (q := 10) y2 (by decide) hn) (fun r39 h39 => ?_))
    by_cases c10 : pu_isW B L p 10 = true
    · obtain ⟨x1, x2⟩ := h39.1 ⟨rfl, c10⟩
      have e1 : pu_lk B L p = 1 := by unfold pu_lk; rw [if_neg c9, if_pos c10]
      have e2 : pu_la B L p = true := by unfold pu_la; rw [c10, Bool.or_true]; rfl
      exact pu_iff (by rw [x1]; exact pu_10) (hg _ ⟨fun _ => ⟨by rw [e1]; rfl, x2⟩, fun z => absurd e2 z⟩)
    obtain ⟨x1, x2, -⟩ := h39.2.1 (fun z => c10 z.2)
    refine pu_ift x1 (pu_bd (pu_srW (q := 11) x2 (by decide) hn) (fun r40 h40 => ?_))
    by_cases c11 : pu_isW B L p 11 = true
    · obtain ⟨u1, u2⟩ := h40.1 ⟨rfl, c11⟩
      have e1 : pu_lk B L p = 2 := by unfold pu_lk; rw [if_neg c9, if_neg c10]
      have e2 : pu_la B L p = true := by unfold pu_la; rw [c11, Bool.or_true]
      exact pu_iff (by rw [u1]; exact pu_10) (hg _ ⟨fun _ => ⟨by rw [e1]; rfl, u2⟩, fun z => absurd e2 z⟩)
    obtain ⟨u1, u2, -⟩ := h40.2.1 (fun z => c11 z.2)
    have e2 : ¬ pu_la B L p = true := by
      unfold pu_la
      rw [Bool.eq_false_iff.mpr c9, Bool.eq_false_iff.mpr c10, Bool.eq_false_iff.mpr c11]
      decide
    exact pu_ift u1 (hg _ ⟨fun z => absurd z e2, fun _ => ⟨rfl, u2⟩⟩)
  obtain ⟨a1, a2⟩ := ha
  have hms : pu_mz B L s = 1 + (L - p) := (pu_mz0 HX).1
  by_cases hla : pu_la B L p = true
  · obtain ⟨y1, y2⟩ := a1 hla
    have hpL := pu_la_lt hla
    have hpG := pu_pG_ge (B := B) hpL
    rw [y1]
    have hk3 := pu_lk3 (B := B) (L := L) (p := p)
    refine pu_jn0 (pu_iff (pu_nm1 (by omega)) (pu_lt ?_))
    have hend : ∀ t, pu_SR B L σ0 (pu_qG B L A q p) (pu_eG B L A q none p) (pu_pG B L p) t → pu_wp (tw_jn (fun (a30 : Int32) =>
tw_lt a30 (fun (v32 : Int32) =>
k13 (v32, t))) (fun (j31 : (Int32) → Option (tw_Sg)) =>
tw_jn (fun (a33 : Unit) =>
j31 (0 : Int32)) (fun (j34 : (Unit) → Option (tw_Sg)) =>
if (1 : Int32) = 0 then (j34 ())
else (tw_bd (tw_P_X12_isGood t) (fun r35 =>
if r35 = 0 then (j34 ())
else (j31 (1 : Int32))))))) (pu_SR B L σ0 (pu_aC X3.2.2 q) X3.1 X3.2.1) := fun t ht => by
      have hlt := pu_mz_lt HX ht (fun _ => hpG.1)
      have hm : ∀ x : Int32, 2 * pu_mz B L t + (if x = 0 then 0 else 1) < 2 * pu_mz B L s + (if (1 : Int32) = 0 then 0 else 1) := fun x => by
        rw [if_neg pu_10]
        split <;> omega
      cases f with
      | zero => omega
      | succ f =>
        rw [pu_gs_s ⟨rfl, hla⟩] at hX
        refine pu_jn0 (pu_jn0 (pu_iff pu_10 ?_))
        cases hE : pu_eG B L A q none p with
        | some e =>
          have ht' := pu_SR_c ht hE.symm
          exact pu_bde (pu_SR_g0 ht') (pu_ift rfl (pu_lt (hk13 ((0 : Int32), t) ⟨f, _, hX, ht, Or.inr ⟨rfl, fun z => by have := z.1; rw [show (pu_eG B L A q none p) = none from this] at hE; cases hE⟩, fun z => by rw [show (pu_eG B L A q none p) = none from z] at hE; cases hE⟩ (hm 0))))
        | none =>
          have ht' := pu_SR_c ht hE.symm
          exact pu_bde (pu_SR_g1 ht') (pu_iff pu_10 (pu_lt (hk13 ((1 : Int32), t) ⟨f, _, hX, ht, Or.inl ⟨rfl, hE⟩, fun z => ⟨(pu_G_AQ hB WQ hE).2.2.2.2.2.2.2.2, by show L < f + pu_pG B L p; omega⟩⟩ (hm 1))))
    have hnl : A (pu_cl q + 2) = Int32.ofNat (pu_nl A q) := WQ.2.2.1.2.2.1.1
    have n9 : pu_nl A q < 9 := WQ.2.2.1.2.2.1.2
    refine pu_jn (R := fun t => pu_SR B L σ0 A (pu_l0 A q none p) (pu_nx B L p) t) (fun a26 h26 => ?_) (fun g hg => ?_)
    · refine pu_jn (R := fun t => pu_SR B L σ0 (pu_qG B L A q p) (pu_eG B L A q none p) (pu_pG B L p) t) (fun a28 h28 => hend a28 h28) (fun g hg => pu_iff pu_10 ?_)
      cases h0 : pu_l0 A q none p with
      | some e =>
        have h26' := pu_SR_c h26 h0.symm
        have eG : pu_eG B L A q none p = some e := pu_l3_e h0
        rw [eG] at hg
        exact pu_bde (pu_SR_g0 h26') (pu_ift rfl (hg _ (pu_SR_any h26')))
      | none =>
        have h26' := pu_SR_c h26 h0.symm
        exact pu_bde (pu_SR_g1 h26') (pu_iff pu_10 (pu_bd (pu_srLeg h26' WQ (pu_fs0.mp h0).2 hn) (fun t ht => hg t ht)))
    · rw [show Int32.ofNat (pu_cl q) + (2 : Int32) = Int32.ofNat (pu_cl q + 2) from pu_add _ 2, pu_n (show pu_cl q + 2 < 2147483648 by omega)]
      refine pu_iff pu_10 (pu_ck (pu_ok (by omega) (by omega)) (pu_if (fun c8 => hg _ ?_) (fun c8 => ?_))) <;> rw [pu_sr445 y2 rfl (by omega), hnl, show (8 : Int32) = Int32.ofNat 8 from rfl, pu_eq (by omega) (by decide)] at c8
      · exact pu_SR_c y2 (pu_fs_y c8)
      · exact pu_bd (pu_srF (o := p) y2 (by decide) (fun _ => rfl)) (fun t ht => hg _ (pu_SR_c ht.1 (pu_fs_n c8)))
  · obtain ⟨y1, y2⟩ := a2 hla
    rw [y1]
    refine pu_jn0 (pu_ift rfl (pu_lt (pu_jn0 (pu_ift rfl (pu_jn0 (pu_ift rfl (pu_jn0 (pu_jn0 (pu_ift rfl (pu_lt (hk13 ((0 : Int32), a20.2) ⟨f, (none, p, A), hX, y2, Or.inr ⟨rfl, fun z => hla z.2⟩, fun _ => ⟨WQ, hf⟩⟩ ?_)))))))))))
    show 2 * pu_mz B L a20.2 + (if (0 : Int32) = 0 then 0 else 1) < 2 * pu_mz B L s + (if (1 : Int32) = 0 then 0 else 1)
    rw [(pu_mz0 y2).1, hms, if_neg pu_10, if_pos rfl]
    omega
end RCL
