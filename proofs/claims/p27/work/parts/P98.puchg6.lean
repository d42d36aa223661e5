/-! turn, undo -/
section CHG6
variable {σ : tw_Sg} {w h nb nc cn len n : Nat} {a a' : Nat → Int32} {hist : Nat → Nat → Int32} {buf : Nat → Nat} {err : Int32}
def pu_aTurn (a : Nat → Int32) (k : Nat) (x : Int32) : Nat → Int32 := upd a (816 + 5 * k + 4) x
def pu_turnOk (nb : Nat) (q x : Int32) : Option Nat := match pu_clueOf nb q with
  | none => none
  | some k => if -3 ≤ x.toInt ∧ x.toInt ≤ 3 then some k else none
def pu_oTurn (a : Nat → Int32) (nb : Nat) (q x : Int32) : Int32 ⊕ Int32 := match pu_clueOf nb q with
  | none => .inr 1
  | some k => if -3 ≤ x.toInt ∧ x.toInt ≤ 3 then .inl (a (816 + 5 * k + 4)) else .inr 2
theorem pu_turn_e {k : Nat} {x : Int32} {j : Nat} (hj : j ≠ 816 + 5 * k + 4) : pu_aTurn a k x j = a j := pu_upd_n hj
theorem pu_turn_ag {k : Nat} {x : Int32} (hk : k < 8) : pu_ag pu_Y a (pu_aTurn a k x) := fun j hj => pu_turn_e (by unfold pu_Y at hj; omega)
theorem pu_turn_WF {k : Nat} {x : Int32} (H : pu_WF a w h nb nc) (hk : k < nb) (hx : -3 ≤ x.toInt ∧ x.toInt ≤ 3) : pu_WF (pu_aTurn a k x) w h nb nc := by
  have h400 := pu_wfm_le H.1
  have hnb := H.2.1.2.1
  have hnc := H.2.2.1.2.1
  refine pu_chg_WF H (pu_turn_ag (by omega)) (fun q hq => ?_) (fun c hc => ?_) (pu_is_cong (pu_turn_e (by omega)) H.2.2.2.1.2.2.2.1) (pu_is_cong (pu_turn_e (by omega)) H.2.2.2.1.2.2.2.2) (pu_is_cong (pu_turn_e (by omega)) H.2.2.2.2) (fun i hi => ?_)
  · rw [pu_turn_e (by unfold pu_cl; omega)]
    exact (H.2.2.1.2.2 q hq).1
  · rw [pu_turn_e (by omega)]
    exact H.2.2.2.1.2.1 c hc
  · by_cases e : i = k
    · subst e
      have e2 : pu_aTurn a i x (816 + 5 * i + 4) = x := pu_upd_s
      rw [e2]
      exact hx
    · rw [pu_turn_e (by omega)]
      obtain ⟨l, t, r, o, -, -, -, -, -, -, -, -, z⟩ := H.2.1.2.2 i hi
      exact z
theorem pu_i3 : (-3 : Int32).toInt = -3 ∧ (3 : Int32).toInt = 3 := by decide
/-- the ways laid anew -/
theorem pu_icrenew {s : tw_Sg} {a' : Nat → Int32} {w' h' nb' nc' cn' : Nat} {hist' : Nat → Nat → Int32} (H' : pu_WF a' w' h' nb' nc') (hCD : pu_CD (pu_bk s 1) a' w' h' nb' nc') (hH : pu_hC s cn' hist') (hW : ∀ i, i < cn' → pu_wf (hist' i)) (hT : s 400 1 = Int32.ofNat len ∧ len ≤ 600 ∧ ∀ i, i < len → s 402 i = Int32.ofNat (buf i) ∧ buf i < 256) (hE : s 0 6 = err) (hn : 1000 < n) : pu_wp (tw_P_X10_renew n s) (fun t => pu_IC t w' h' nb' nc' a' cn' hist' len buf err ∧ pu_fr pu_F8 s t) := by
  refine pu_cons (pu_renew H'.1 H'.2.1 H'.2.2.1 hCD hn) (fun t ht => ?_)
  obtain ⟨t1, t2, t3⟩ := ht
  have g : ∀ k, ¬ (k = 35 ∨ (41 ≤ k ∧ k < 112)) → t k = s k := fun k hk => t3 k (by unfold pu_F8 pu_F7; omega)
  exact ⟨⟨H', ⟨pu_CD_fr H'.1 H'.2.1.2.1 H'.2.2.1 hCD (fun k hk => g k (by omega)), t2, t1⟩, pu_hC_fr hH hW (fun k z1 z2 => g k (by omega)), hW, ⟨by rw [g 400 (by omega)]; exact hT.1, hT.2.1, fun i hi => by rw [g 402 (by omega)]; exact hT.2.2 i hi⟩, by rw [g 0 (by omega)]; exact hE⟩, t3⟩
theorem pu_cturn {q x : Int32} (I : pu_IC σ w h nb nc a cn hist len buf err) (hn : 1000 < n) : pu_wp (tw_P_L_turn n q x σ) (pu_KC σ (pu_oTurn a nb q x) (fun s => match pu_turnOk nb q x with | none => pu_IC s w h nb nc a cn hist len buf err | some k => pu_IC s w h nb nc (pu_aTurn a k x) (min (cn + 1) 8) (pu_push cn hist a) len buf err)) := by
  obtain ⟨H, C, -⟩ := id I
  have hnb := H.2.1.2.1
  have e5 : σ 1 5 = Int32.ofNat nb := C.1.1.2.2.1.trans H.2.1.1
  obtain ⟨i3, i4⟩ := pu_i3
  have hsame : pu_turnOk nb q x = none → ∀ s : tw_Sg, pu_IC s w h nb nc a cn hist len buf err → (match pu_turnOk nb q x with | none => pu_IC s w h nb nc a cn hist len buf err | some k => pu_IC s w h nb nc (pu_aTurn a k x) (min (cn + 1) 8) (pu_push cn hist a) len buf err) := fun z s hs => by rw [z]; exact hs
  unfold tw_P_L_turn
  refine pu_bcw (R := fun r => (r = .inr "java/lang/IndexOutOfBoundsException" ∧ pu_oTurn a nb q x = .inr 1 ∧ pu_turnOk nb q x = none) ∨ (r = .inr "java/lang/IllegalArgumentException" ∧ pu_oTurn a nb q x = .inr 2 ∧ pu_turnOk nb q x = none) ∨ ∃ k v s, r = .inl (v, s) ∧ pu_oTurn a nb q x = .inl v ∧ pu_turnOk nb q x = some k ∧ pu_IC s w h nb nc (pu_aTurn a k x) (min (cn + 1) 8) (pu_push cn hist a) len buf err ∧ pu_fr pu_fC σ s) ?_ (fun v hv => ?_) (fun s hs => ?_)
  · unfold tw_P_X11_turn
    have hout : pu_clueOf nb q = none → pu_oTurn a nb q x = .inr 1 ∧ pu_turnOk nb q x = none := fun z => ⟨by unfold pu_oTurn; rw [z], by unfold pu_turnOk; rw [z]⟩
    refine pu_jn0 (pu_if (fun c1 => ?_) (fun c1 => ?_))
    · rw [Int32.lt_iff_toInt_lt, pu_toInt0] at c1
      exact pu_some (Or.inl ⟨rfl, hout (if_neg (by omega))⟩)
    rw [Int32.lt_iff_toInt_lt, pu_toInt0] at c1
    refine pu_if (fun c2 => ?_) (fun c2 => ?_) <;> rw [e5, Int32.lt_iff_toInt_lt, pu_toInt (show nb < 2147483648 by omega)] at c2
    rotate_left
    · exact pu_some (Or.inl ⟨rfl, hout (if_neg (by omega))⟩)
    obtain ⟨b1, b2, b3⟩ := pu_back (x := q) (by omega)
    have eq : pu_clueOf nb q = some q.toNatClampNeg := if_pos ⟨by omega, c2⟩
    generalize q.toNatClampNeg = k at b1 b2 b3 eq
    have hk : k < nb := by omega
    have hout2 : ¬ (-3 ≤ x.toInt ∧ x.toInt ≤ 3) → pu_oTurn a nb q x = .inr 2 ∧ pu_turnOk nb q x = none := fun z => ⟨by unfold pu_oTurn; rw [eq]; exact if_neg z, by unfold pu_turnOk; rw [eq]; exact if_neg z⟩
    refine pu_jn0 (pu_if (fun c3 => ?_) (fun c3 => ?_)) <;> rw [Int32.lt_iff_toInt_lt, i3] at c3
    · exact pu_some (Or.inr (Or.inl ⟨rfl, hout2 (by omega)⟩))
    refine pu_if (fun c4 => ?_) (fun c4 => ?_) <;> rw [Int32.le_iff_toInt_le, i4] at c4
    rotate_left
    · exact pu_some (Or.inr (Or.inl ⟨rfl, hout2 (by omega)⟩))
    have hx : -3 ≤ x.toInt ∧ x.toInt ≤ 3 := ⟨by omega, c4⟩
    have ho : pu_oTurn a nb q x = .inl (a (816 + 5 * k + 4)) := by unfold pu_oTurn; rw [eq]; exact if_pos hx
    have ht : pu_turnOk nb q x = some k := by unfold pu_turnOk; rw [eq]; exact if_pos hx
    rw [b1]
    rw [b1] at ho ht
    refine pu_bd (pu_ickeep I) (fun s hs => ?_)
    obtain ⟨J, s2⟩ := hs
    have hf : pu_fr pu_fC σ s := pu_fr_mono s2 (fun k hk => by unfold pu_F4 at hk; unfold pu_fC; omega)
    obtain ⟨-, j2, j3, j4, j5, j6⟩ := id J
    refine pu_bde (pu_get (th := 12) (i := k) (N := 8) (by decide +kernel) (by decide) (by omega)) (pu_lt ?_)
    have v13 : s (12 + 1) k = a (816 + 5 * k + 4) := (j2.1.2.2.2.2.1 k hk).2.2
    rw [v13]
    refine pu_bde (pu_put (th := 12) (i := k) (N := 8) (by decide +kernel) (by decide) (by omega)) ?_
    have g : ∀ j, j ≠ 13 → tw_up s (12 + 1) k x j = s j := fun j hj => tw_up_n hj
    have H' := pu_turn_WF (x := x) H hk hx
    have hCD : pu_CD (pu_bk (tw_up s (12 + 1) k x) 1) (pu_aTurn a k x) w h nb nc := by
      refine pu_chg_CD H (pu_turn_ag (by omega)) j2.1 (fun j i hl h10 h4 h15 h12 => ?_) ?_ ?_ ?_ (fun z => ?_) ?_ (fun q hq => ?_) (fun m hm => ?_)
      · show tw_up s (12 + 1) k x (1 + j) i = s (1 + j) i
        rw [g _ (by omega)]
      · show tw_up s (12 + 1) k x 1 10 = _
        rw [g 1 (by decide), pu_tm_of (c := pu_v a 4) (by have := (pu_team H).2.1; have := pu_wfm_le H.1; omega) ((pu_turn_e (by omega)).trans (pu_team H).1)]
        exact pu_cteam H j2.1
      · show tw_up s (12 + 1) k x 1 11 = _
        rw [g 1 (by decide), pu_turn_e (by omega)]
        exact j2.1.1.2.2.2.1
      · show tw_up s (12 + 1) k x 1 12 = _
        rw [g 1 (by decide), pu_turn_e (by omega)]
        exact j2.1.1.2.2.2.2.1
      · rw [pu_turn_e (by omega)] at z
        show tw_up s (12 + 1) k x 1 13 = _
        rw [g 1 (by decide), pu_v_cong (pu_turn_e (by omega))]
        exact j2.1.1.2.2.2.2.2.2.2 z
      · refine pu_set_ext (pu_set_cong (σ := pu_bk s 1) j2.1.2.2.1 (g 5 (by decide))) (fun d hd => ?_)
        unfold pu_dug
        have := pu_wfm_le H.1
        rw [pu_turn_e (by omega)]
      · show tw_up s (12 + 1) k x 16 q = _
        have hnc := H.2.2.1.2.1
        rw [g 16 (by decide), pu_turn_e (by unfold pu_cl; omega)]
        exact (j2.1.2.2.2.2.2 q hq).1
      · show tw_up s (12 + 1) k x (12 + 1) m = _
        rw [tw_up_s]
        unfold upd
        by_cases e : m = k
        · subst e
          rw [if_pos rfl]
          exact pu_upd_s.symm
        · rw [if_neg e, pu_turn_e (by omega)]
          exact (j2.1.2.2.2.2.1 m hm).2.2
    refine pu_bd (pu_icrenew (len := len) (buf := buf) (err := err) H' hCD (pu_hC_fr j3 j4 (fun i _ _ => g i (by omega))) j4 ⟨by rw [g 400 (by decide)]; exact j5.1, j5.2.1, fun i hi => by rw [g 402 (by decide)]; exact j5.2.2 i hi⟩ (by rw [g 0 (by decide)]; exact j6) hn) (fun t ht' => ?_)
    refine pu_some (Or.inr (Or.inr ⟨k, _, _, rfl, ho, ht, ht'.1, ?_⟩))
    exact pu_fr_trans hf (pu_fr_trans (pu_fr_up (by unfold pu_fC; omega)) (pu_fr_mono ht'.2 (fun i hi => by unfold pu_F8 pu_F7 at hi; unfold pu_fC; omega)))
  · rcases hv with ⟨z, -⟩ | ⟨z, -⟩ | ⟨k, u, s, z, ho, ht, hI, hf⟩
    · cases z
    · cases z
    · cases z
      rw [ht]
      exact pu_ktell ho hI pu_IC_1036 hf
  · rcases hs with ⟨z, ho, ht⟩ | ⟨z, ho, ht⟩ | ⟨k, u, t, z, -⟩
    · cases z
      rw [ht]
      exact pu_ift rfl (pu_some (pu_kfault ho I))
    · cases z
      rw [ht]
      exact pu_iff (by decide) (pu_ift rfl (pu_some (pu_kfault ho I)))
    · cases z
/-! undo -/
theorem pu_cundo0 (I : pu_IC σ w h nb nc a 0 hist len buf err) : pu_wp (tw_P_X11_undo n σ) (fun r => r.1 = -1 ∧ r.2 = σ) := by
  unfold tw_P_X11_undo
  refine pu_bde (pu_ctake0 I.2.2.1) (pu_iff (fun z => z rfl) (pu_some ⟨rfl, rfl⟩))
theorem pu_cundo (I : pu_IC σ w h nb nc a (cn + 1) hist len buf err) (hn : 1000 < n) : pu_wp (tw_P_X11_undo n σ) (fun r => r.1 = Int32.ofNat cn ∧ pu_IC r.2 (pu_v (hist cn) 0) (pu_v (hist cn) 1) (pu_v (hist cn) 2) (pu_v (hist cn) 3) (hist cn) cn hist len buf err ∧ pu_fr pu_fC σ r.2) := by
  obtain ⟨i1, i2, i3, i4, i5, i6⟩ := I
  unfold tw_P_X11_undo
  refine pu_bd (pu_ctake i3 i4) (fun r hr => ?_)
  obtain ⟨r1, r2, r3, r4⟩ := hr
  refine pu_ift (by rw [r1]; exact pu_10) ?_
  have g : ∀ k, 33 ≤ k → k ≠ 142 → r.2 k = σ k := fun k h1 h2 => r4 k (by unfold pu_F5; omega)
  have hW : pu_wf (hist cn) := i4 cn (by omega)
  refine pu_bd (pu_icrenew (len := len) (buf := buf) (err := err) hW r3 r2 (fun i hi => i4 i (by omega)) ⟨by rw [g 400 (by decide) (by decide)]; exact i5.1, i5.2.1, fun i hi => by rw [g 402 (by decide) (by decide)]; exact i5.2.2 i hi⟩ (by rw [r4 0 (by unfold pu_F5; omega)]; exact i6) hn) (fun t ht => ?_)
  obtain ⟨t1, t2⟩ := ht
  refine pu_some ⟨?_, t1, pu_fr_trans (pu_fr_mono r4 (fun k hk => by unfold pu_F5 at hk; unfold pu_fC; omega)) (pu_fr_mono t2 (fun k hk => by unfold pu_F8 pu_F7 at hk; unfold pu_fC; omega))⟩
  obtain ⟨-, -, -, e2, -⟩ := t1.2.2.1
  exact e2
end CHG6
