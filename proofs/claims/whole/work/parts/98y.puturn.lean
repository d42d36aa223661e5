/-! THE LAW'S TURN, case by case -/
theorem pu_ends01 {a : Nat → Int32} {w h nb nc : Nat} {q x y v : Int32} (e : pu_oEnds a w h nb nc q x y = .inl v) : v = 0 ∨ v = 1 := by
  unfold pu_oEnds at e
  cases e0 : pu_clueOf nc q with
  | none => rw [e0] at e; cases e
  | some u =>
    rw [e0] at e
    dsimp only [] at e
    cases e1 : pu_cellOf w h x y with
    | none => rw [e1] at e; cases e
    | some c =>
      rw [e1] at e
      dsimp only [] at e
      rw [← Sum.inl.inj e]
      by_cases p : pu_Fw a w h nb u (pu_nl a u) c
      · exact Or.inr (pu_bi_t p)
      · exact Or.inl (pu_bi_f p)
theorem pu_lawB {n Ln i : Nat} {xs : Nat → Int32} {kk : Int32 × tw_Sg → Option Int32} {σ : tw_Sg} (hn : 2000 < n) (hld : pu_loadOK n) (hLn : Ln ≤ 3072) (hi : i ≤ Ln) (I0 : pu_Inv σ) (hk : ∀ s, i + 6 ≤ Ln → pu_Inv s → kk (Int32.ofNat (i + 6), s) = some 1) : pu_wp (tw_lawB n Ln xs kk (Int32.ofNat i, σ)) (fun r => r = 1) := by
  obtain ⟨w, h, nb, nc, cn, len, a, hist, buf, err, I, J⟩ := I0
  obtain ⟨H, C, hH, hW, hT, hE⟩ := id I
  have hcn : cn ≤ 8 := J.2.1.2.1
  have hn1 : 1000 < n := by omega
  have hQC := fun {s : tw_Sg} (hf : pu_fr pu_SQ σ s) => pu_quC I J hf
  unfold tw_lawB
  dsimp only []
  have e6 : Int32.ofNat Ln - (6 : Int32) = Int32.ofInt ((Ln : Int) - 6) := by
    rw [Int32.ofInt_sub, Int32.ofInt_eq_ofNat]
    rfl
  refine pu_if (fun c0 => pu_some rfl) (fun c0 => ?_)
  rw [e6, Int32.lt_iff_toInt_lt, pu_int (by omega) (by omega), pu_toInt (by omega)] at c0
  have hi6 : i + 6 ≤ Ln := by omega
  have k0 : tw_ok (Int32.ofNat i) Ln = true := pu_ok (by omega) (by omega)
  have kj : ∀ j, j < 6 → tw_ok (Int32.ofNat (i + j)) Ln = true := fun j hj => pu_ok (by omega) (by omega)
  have k1 : tw_ok (Int32.ofNat i + (1 : Int32)) Ln = true := by rw [show Int32.ofNat i + (1 : Int32) = Int32.ofNat (i + 1) from pu_add i 1]; exact kj 1 (by decide)
  have k2 : tw_ok (Int32.ofNat i + (2 : Int32)) Ln = true := by rw [show Int32.ofNat i + (2 : Int32) = Int32.ofNat (i + 2) from pu_add i 2]; exact kj 2 (by decide)
  have k3 : tw_ok (Int32.ofNat i + (3 : Int32)) Ln = true := by rw [show Int32.ofNat i + (3 : Int32) = Int32.ofNat (i + 3) from pu_add i 3]; exact kj 3 (by decide)
  have k4 : tw_ok (Int32.ofNat i + (4 : Int32)) Ln = true := by rw [show Int32.ofNat i + (4 : Int32) = Int32.ofNat (i + 4) from pu_add i 4]; exact kj 4 (by decide)
  have k5 : tw_ok (Int32.ofNat i + (5 : Int32)) Ln = true := by rw [show Int32.ofNat i + (5 : Int32) = Int32.ofNat (i + 5) from pu_add i 5]; exact kj 5 (by decide)
  refine pu_ck k0 (pu_jn (R := pu_Inv) (fun s hs => ?_) (fun j2 hj => ?_))
  · refine pu_lt ?_
    rw [show Int32.ofNat i + (6 : Int32) = Int32.ofNat (i + 6) from pu_add i 6]
    exact pu_of (hk s hi6 hs) rfl
  simp only [k1, k2, k3, k4, k5, pu_ckt]
  generalize xs (Int32.toNatClampNeg (Int32.ofNat i)) &&& (31 : Int32) = op
  generalize xs (Int32.toNatClampNeg (Int32.ofNat i + (1 : Int32))) = x1
  generalize xs (Int32.toNatClampNeg (Int32.ofNat i + (2 : Int32))) = x2
  generalize xs (Int32.toNatClampNeg (Int32.ofNat i + (3 : Int32))) = x3
  generalize xs (Int32.toNatClampNeg (Int32.ofNat i + (4 : Int32))) = x4
  generalize xs (Int32.toNatClampNeg (Int32.ofNat i + (5 : Int32))) = x5
  -- append
  refine pu_if (fun _ => ?_) (fun _ => ?_)
  · by_cases hl : len + 20 ≤ 600
    · refine pu_ansB (v := Int32.ofNat (len + 20)) (PC := fun s => pu_IC s w h nb nc a cn hist (len + 20) (pu_app (pu_wd x1 x2 x3 x4 x5) len buf) err ∧ pu_IR s w h nb nc a cn hist len buf err) (pu_cons (pu_capp I hn1 x1 x2 x3 x4 x5) (fun r hr => ?_)) (fun s hs => pu_cons (pu_rapp H hs.2 hT.2.1 hn1 x1 x2 x3 x4 x5) (fun r hr => ?_)) hj
      · rw [if_pos hl] at hr
        exact ⟨hr.1, hr.2.1, pu_IR_C H J hr.2.2⟩
      · rw [if_pos hl] at hr
        exact ⟨hr.1, pu_Inv_R hs.1 hr.2.1 hr.2.2⟩
    · refine pu_ansB (v := (-1 : Int32)) (PC := fun s => s = σ) (pu_cons (pu_capp I hn1 x1 x2 x3 x4 x5) (fun r hr => ?_)) (fun s hs => ?_) hj
      · rw [if_neg hl] at hr
        exact hr
      · subst hs
        refine pu_cons (pu_rapp H J hT.2.1 hn1 x1 x2 x3 x4 x5) (fun r hr => ?_)
        rw [if_neg hl] at hr
        exact ⟨hr.1, pu_Inv_R I hr.2.1 hr.2.2⟩
  -- load
  refine pu_if (fun _ => ?_) (fun _ => ?_)
  · obtain ⟨o, w', h', nb', nc', cn', len', a', hist', buf', err', q1, q2, q3⟩ := hld w h nb nc cn len a hist buf err x1 H hW hcn hT.2.1 (fun i hi => (hT.2.2 i hi).2)
    exact pu_quK I J q1 (q2 _ I) (fun s hs => q3 s hs) hj
  -- errorOffset
  refine pu_if (fun _ => ?_) (fun _ => ?_)
  · exact pu_bde (pu_cerr I) (pu_bd (pu_rerr H J) (fun r hr => pu_ift hr.1.symm (hj _ (pu_Inv_R I hr.2.1 hr.2.2))))
  -- state
  refine pu_if (fun _ => ?_) (fun _ => ?_)
  · exact pu_quQ I J pu_zState (pu_cstateP H C hn1) (fun s hs => pu_rstateP H hs hn1) hj
  -- cell
  refine pu_if (fun _ => ?_) (fun _ => ?_)
  · exact pu_quQ I J pu_zCell (pu_ccell H C (by omega)) (fun s hs => pu_rcell H hs hn1) hj
  -- pace
  refine pu_if (fun _ => ?_) (fun _ => ?_)
  · exact pu_quQ I J pu_zPace (pu_cpace H C) (fun s hs => pu_rpace H hs (by omega)) hj
  -- reached
  refine pu_if (fun _ => ?_) (fun _ => ?_)
  · exact pu_quQ I J pu_zReached (pu_creached H C (by omega)) (fun s hs => pu_rreached H hs hn1) hj
  -- ends
  refine pu_if (fun _ => ?_) (fun _ => ?_)
  · refine pu_bd (pu_cends (n := n) (q := x1) (x := x2) (y := x3) H C) (fun r hr => pu_lt (pu_bd (pu_rends (q := x1) (x := x2) (y := x3) H (hQC hr.2.2).2.1 hn1) (fun r' hr' => ?_)))
    obtain ⟨g1, g2, g3⟩ := hr
    obtain ⟨q1, q2, q3, q4, q5⟩ := hr'
    obtain ⟨z1, z2⟩ := pu_quR (hQC g3).1 (hQC g3).2 q3 q4 q5
    refine pu_lt (pu_bde (a := r'.2 442 0) rfl (pu_ift (q1.trans g1.symm) (pu_jn0 (pu_if (fun _ => hj _ z2) (fun c => ?_)))))
    rw [pu_l1036]
    refine pu_ck (by decide) ?_
    cases ho : pu_oEnds a w h nb nc x1 x2 x3 with
    | inr v =>
      have c := Classical.not_not.mp c
      rw [g1, ho] at c
      exact absurd c (pu_zEnds v ho)
    | inl v =>
      have g2 := g2 v ho
      have q2 := q2 v ho
      have e1 : r'.2 1036 (Int32.toNatClampNeg (0 : Int32)) = v := by rw [z1]; exact g2
      have hgo : ∀ y : Int64, y = Int32.toInt64 v → pu_wp (if (lg_cmp (Int32.toInt64 (r'.2 1036 (Int32.toNatClampNeg (0 : Int32)))) y) = 0 then j2 r'.2 else some 0) (fun r => r = 1) := fun y hy => by
        refine pu_ift ?_ (hj _ z2)
        rw [hy]
        exact pu_cmp0 e1
      refine pu_jn0 (pu_if (fun c2 => hgo _ ?_) (fun c2 => hgo _ ?_)) <;> rw [q2] at c2
      · rw [c2]; rfl
      · rcases pu_ends01 ho with z | z
        · exact absurd z c2
        · rw [z]; rfl
  -- why
  refine pu_if (fun _ => ?_) (fun _ => ?_)
  · exact pu_quQ I J pu_zWhy (pu_cwhy H C (by omega)) (fun s hs => pu_rwhy H hs hn1) hj
  -- walk
  refine pu_if (fun _ => ?_) (fun _ => ?_)
  · exact pu_quQ I J pu_zWalk (pu_cwalk H C hn1) (fun s hs => pu_rwalk H hs hn1) hj
  -- starts
  refine pu_if (fun _ => ?_) (fun _ => ?_)
  · exact pu_quQ I J pu_zStarts (pu_cstarts H C hn1) (fun s hs => pu_rstarts H hs hn1) hj
  -- distance
  refine pu_if (fun _ => ?_) (fun _ => ?_)
  · exact pu_quQ I J pu_zDist (pu_cdistance H C (by omega)) (fun s hs => pu_rdistance H hs hn1) hj
  -- nearest
  refine pu_if (fun _ => ?_) (fun _ => ?_)
  · exact pu_ansB (PC := fun s => pu_IC s w h nb nc a cn hist len buf err ∧ pu_IR s w h nb nc a cn hist len buf err) (pu_cons (pu_cnear H C hn1) (fun r hr => ⟨hr.1, hQC hr.2⟩)) (fun s hs => pu_cons (pu_rnear H hs.2.1 hn1) (fun r hr => ⟨(pu_QRv hr).1, (pu_quR hs.1 hs.2 (pu_QRv hr).2.1 (pu_QRv hr).2.2.1 (pu_QRv hr).2.2.2).2⟩)) hj
  -- tour
  refine pu_if (fun _ => ?_) (fun _ => ?_)
  · exact pu_ansB (PC := fun s => pu_IC s w h nb nc a cn hist len buf err ∧ pu_IR s w h nb nc a cn hist len buf err) (pu_cons (pu_ctour H C hn1) (fun r hr => ⟨hr.1, hQC hr.2⟩)) (fun s hs => pu_cons (pu_rtour H hs.2.1 hn1) (fun r hr => ⟨(pu_QRv hr).1, (pu_quR hs.1 hs.2 (pu_QRv hr).2.1 (pu_QRv hr).2.2.1 (pu_QRv hr).2.2.2).2⟩)) hj
  -- part
  refine pu_if (fun _ => ?_) (fun _ => ?_)
  · exact pu_quQ I J pu_zPart (pu_cpart H C hn1) (fun s hs => pu_rpart H hs hn1) hj
  -- meanDistance
  refine pu_if (fun _ => ?_) (fun _ => ?_)
  · refine pu_bd (pu_cmean H C hn1) (fun r hr => pu_lt (pu_bd (pu_rmean H (hQC hr.2).2.1 hn1) (fun r' hr' => pu_lt ?_)))
    obtain ⟨g1, g2⟩ := hr
    obtain ⟨q1, -, q3, q4, q5⟩ := hr'
    obtain ⟨-, z2⟩ := pu_quR (hQC g2).1 (hQC g2).2 q3 q4 q5
    rw [g1, q1]
    refine pu_jn0 (pu_if (fun c => hj _ z2) (fun c => pu_jn0 (pu_iff c (pu_ift c (hj _ z2)))))
  -- chestIsLeft
  refine pu_if (fun _ => ?_) (fun _ => ?_)
  · exact pu_ansB (PC := fun s => pu_IC s w h nb nc a cn hist len buf err ∧ pu_IR s w h nb nc a cn hist len buf err) (pu_cons (pu_cchest H C (by omega)) (fun r hr => ⟨hr.1, hQC hr.2⟩)) (fun s hs => pu_cons (pu_rchest H hs.2.1 hn1) (fun r hr => ⟨(pu_QRv hr).1, (pu_quR hs.1 hs.2 (pu_QRv hr).2.1 (pu_QRv hr).2.2.1 (pu_QRv hr).2.2.2).2⟩)) hj
  -- moveTo
  refine pu_if (fun _ => ?_) (fun _ => ?_)
  · have q1 := pu_cmove (x := x1) (y := x2) I hn1
    have q2 := fun s (hs : pu_IR s w h nb nc a cn hist len buf err) => pu_rmove (x := x1) (y := x2) H hs hn
    cases e : pu_moves a w h x1 x2 with
    | none => rw [e] at q1 q2; exact pu_quK I J pu_zMove q1 q2 hj
    | some c => rw [e] at q1 q2; exact pu_quK I J pu_zMove q1 q2 hj
  -- dig
  refine pu_if (fun _ => ?_) (fun _ => ?_)
  · exact pu_ansB (PC := fun s => pu_IC s w h nb nc (pu_aDig a) (min (cn + 1) 8) (pu_push cn hist a) len buf err ∧ pu_IR s w h nb nc a cn hist len buf err) (pu_cons (pu_cdig I) (fun r hr => ⟨hr.1, hr.2.1, pu_IR_C H J hr.2.2⟩)) (fun s hs => pu_cons (pu_rdig H hs.2 hn) (fun r hr => ⟨hr.1, pu_Inv_R hs.1 hr.2.2.1 hr.2.2.2⟩)) hj
  -- use
  refine pu_if (fun _ => ?_) (fun _ => ?_)
  · refine pu_jn (R := fun v => v = if x2 = 0 then 0 else 1) (fun v hv => ?_) (fun f hf => pu_if (fun c => hf _ (if_pos c).symm) (fun c => hf _ (if_neg c).symm))
    have hb : ∀ s : Int32 × tw_Sg, ∀ v9 : Int32, tw_jn (fun (a134 : Int32) => tw_bd (tw_P_X12_use n x1 a134 s.2) (fun r136 => tw_lt r136.1 (fun (v137 : Int32) => tw_bd (tw_P_X12_thrown r136.2) (fun r138 => if r138 = v9 then (tw_jn (fun (a139 : Unit) => j2 r136.2) (fun (j140 : (Unit) → Option (Int32)) => if ¬ v9 = 0 then (j140 ()) else (tw_ck (tw_ok (0 : Int32) (tw_ln 1036)) (if (lg_cmp (Int32.toInt64 (r136.2 1036 (Int32.toNatClampNeg (0 : Int32)))) (Int32.toInt64 v137)) = 0 then (j140 ()) else (some (0 : Int32)))))) else (some (0 : Int32)))))) (fun (j135 : (Int32) → Option (Int32)) => if x2 = 0 then (j135 (0 : Int32)) else (j135 (1 : Int32))) = tw_bd (tw_P_X12_use n x1 v s.2) (fun r136 => tw_lt r136.1 (fun (v137 : Int32) => tw_bd (tw_P_X12_thrown r136.2) (fun r138 => if r138 = v9 then (tw_jn (fun (a139 : Unit) => j2 r136.2) (fun (j140 : (Unit) → Option (Int32)) => if ¬ v9 = 0 then (j140 ()) else (tw_ck (tw_ok (0 : Int32) (tw_ln 1036)) (if (lg_cmp (Int32.toInt64 (r136.2 1036 (Int32.toNatClampNeg (0 : Int32)))) (Int32.toInt64 v137)) = 0 then (j140 ()) else (some (0 : Int32)))))) else (some (0 : Int32))))) := fun s v9 => by
      by_cases c : x2 = 0
      · have hv' : v = 0 := by rw [hv, if_pos c]
        rw [hv']
        exact if_pos c
      · have hv' : v = 1 := by rw [hv, if_neg c]
        rw [hv']
        exact if_neg c
    simp only [hb]
    have q1 := pu_cuse (q := x1) (x := v) I hn1
    have q2 := fun s (hs : pu_IR s w h nb nc a cn hist len buf err) => pu_ruse (q := x1) (x := v) H hs hn
    cases e : pu_clueOf nc x1 with
    | none => rw [e] at q1 q2; exact pu_quK I J pu_zUse q1 q2 hj
    | some c => rw [e] at q1 q2; exact pu_quK I J pu_zUse q1 q2 hj
  -- hide
  refine pu_if (fun _ => ?_) (fun _ => ?_)
  · have q1 := pu_chide (x := x1) I hn1
    have q2 := fun s (hs : pu_IR s w h nb nc a cn hist len buf err) => pu_rhide (x := x1) H hs hn
    cases e : pu_hideOf x1 with
    | none => rw [e] at q1 q2; exact pu_quK I J pu_zHide q1 q2 hj
    | some c => rw [e] at q1 q2; exact pu_quK I J pu_zHide q1 q2 hj
  -- turn
  refine pu_if (fun _ => ?_) (fun _ => ?_)
  · have q1 := pu_cturn (q := x1) (x := x2) I hn1
    have q2 := fun s (hs : pu_IR s w h nb nc a cn hist len buf err) => pu_rturn (q := x1) (x := x2) H hs hn
    cases e : pu_turnOk nb x1 x2 with
    | none => rw [e] at q1 q2; exact pu_quK I J pu_zTurn q1 q2 hj
    | some c => rw [e] at q1 q2; exact pu_quK I J pu_zTurn q1 q2 hj
  -- undo
  refine pu_if (fun _ => ?_) (fun _ => ?_)
  · cases cn with
    | zero =>
      refine pu_ansB (v := (-1 : Int32)) (PC := fun s => s = σ) (pu_cundo0 I) (fun s hs => ?_) hj
      subst hs
      exact pu_cons (pu_rundo0 H J) (fun r hr => ⟨hr.1, pu_Inv_R I hr.2.2.1 hr.2.2.2⟩)
    | succ c =>
      exact pu_ansB (PC := fun s => pu_IC s (pu_v (hist c) 0) (pu_v (hist c) 1) (pu_v (hist c) 2) (pu_v (hist c) 3) (hist c) c hist len buf err ∧ pu_IR s w h nb nc a (c + 1) hist len buf err) (pu_cons (pu_cundo I hn1) (fun r hr => ⟨hr.1, hr.2.1, pu_IR_C H J hr.2.2⟩)) (fun s hs => pu_cons (pu_rundo H hs.2 hn) (fun r hr => ⟨hr.1, pu_Inv_R hs.1 hr.2.2.1 hr.2.2.2⟩)) hj
  -- checksum
  refine pu_if (fun _ => ?_) (fun _ => ?_)
  · refine pu_bd (pu_csum H C hn1) (fun r hr => pu_bd (pu_rsum H (hQC hr.2).2.1 hn1) (fun r' hr' => ?_))
    obtain ⟨g1, g2⟩ := hr
    obtain ⟨q1, -, q3, q4, q5⟩ := hr'
    obtain ⟨-, z2⟩ := pu_quR (hQC g2).1 (hQC g2).2 q3 q4 q5
    refine pu_ift ?_ (hj _ z2)
    rw [g1, q1]
    exact (lg_cmp_eq _ _).mpr rfl
  exact hj σ ⟨w, h, nb, nc, cn, len, a, hist, buf, err, I, J⟩
/-- all turns -/
theorem pu_lawL {n Ln : Nat} {xs : Nat → Int32} (hn : 2000 < n) (hld : pu_loadOK n) (hLn : Ln ≤ 3072) : ∀ (m i : Nat) (σ : tw_Sg), i ≤ Ln → Ln + 6 ≤ i + 6 * m → pu_Inv σ → tw_lawL n Ln xs m (Int32.ofNat i, σ) = some (1 : Int32)
  | 0, i, σ, h1, h2, _ => by omega
  | m + 1, i, σ, h1, h2, hI => by
    obtain ⟨r, hr, e⟩ := pu_lawB (xs := xs) (kk := tw_lp (fun kk a => tw_lawB n Ln xs kk a) m) hn hld hLn h1 hI (fun s z1 z2 => pu_lawL hn hld hLn m (i + 6) s z1 (by omega) z2)
    rw [← e]
    exact hr
