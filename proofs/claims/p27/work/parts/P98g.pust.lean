/-! THE STATEMENTS. A check on the way; both readers' states -/
noncomputable def pu_fs (E : Option (Int32 × Nat)) (c : Prop) (k : Int32) (o : Nat) : Option (Int32 × Nat) := match E with | some e => some e | none => if pu_B c = true then none else some (k, o)
theorem pu_fs_s {e : Int32 × Nat} {c : Prop} {k : Int32} {o : Nat} : pu_fs (some e) c k o = some e := rfl
theorem pu_fs_y {c : Prop} {k : Int32} {o : Nat} (h : c) : pu_fs none c k o = none := if_pos (pu_B_t h)
theorem pu_fs_n {c : Prop} {k : Int32} {o : Nat} (h : ¬ c) : pu_fs none c k o = some (k, o) := if_neg (fun z => h (pu_B_iff.mp z))
theorem pu_fs_yE {E : Option (Int32 × Nat)} {c : Prop} {k : Int32} {o : Nat} (h : c) : pu_fs E c k o = E := by
  cases E with
  | none => exact pu_fs_y h
  | some e => rfl
theorem pu_fs_nE {E : Option (Int32 × Nat)} {c : Prop} {k : Int32} {o : Nat} (h : ¬ c) : pu_fs E c k o = pu_or E k o := by
  cases E with
  | none => exact pu_fs_n h
  | some e => rfl
theorem pu_fs0 {E : Option (Int32 × Nat)} {c : Prop} {k : Int32} {o : Nat} : pu_fs E c k o = none ↔ E = none ∧ c := by
  by_cases h : c
  · rw [pu_fs_yE h]; exact ⟨fun z => ⟨z, h⟩, fun z => z.1⟩
  · rw [pu_fs_nE h]
    cases E with
    | none => exact ⟨fun z => (by cases z), fun z => absurd z.2 h⟩
    | some e => exact ⟨fun z => (by cases z), fun z => (by cases z.1)⟩
theorem pu_or0 {E : Option (Int32 × Nat)} {k : Int32} {o : Nat} : ¬ pu_or E k o = none := by
  cases E with
  | none => intro z; cases z
  | some e => intro z; cases z
def pu_nk (B : Nat → Nat) (L : Nat) : Nat → Nat → Nat
  | 0, p => p
  | k + 1, p => pu_nx B L (pu_nk B L k p)
theorem pu_nk_le {B : Nat → Nat} {L p : Nat} (hp : p ≤ L) : ∀ k, p ≤ pu_nk B L k p ∧ pu_nk B L k p ≤ L
  | 0 => ⟨Nat.le_refl _, hp⟩
  | k + 1 => by
    obtain ⟨h1, h2⟩ := pu_nk_le hp k
    obtain ⟨a1, a2, -⟩ := pu_nx_rng (B := B) h2
    exact ⟨Nat.le_trans h1 a1, a2⟩
def pu_nc (B : Nat → Nat) (L p : Nat) : Int32 := if pu_tk B L p = 2 then -3 else -2
noncomputable def pu_eN (B : Nat → Nat) (L : Nat) (E : Option (Int32 × Nat)) (lo hi : Int) (p : Nat) : Option (Int32 × Nat) := pu_fs E (pu_numOkR B L p lo hi) (pu_nc B L p) p
theorem pu_nc0 {B : Nat → Nat} {L p : Nat} : pu_nc B L p ≠ 0 := by
  unfold pu_nc
  split <;> decide
/-! the class's state -/
section SC
variable {σ σ0 : tw_Sg} {B : Nat → Nat} {L p n w h : Nat} {E : Option (Int32 × Nat)} {Q : tw_Sg → Prop}
def pu_fK (σ σ' : tw_Sg) : Prop := (∀ k, k ≠ 400 → ¬ (403 ≤ k ∧ k < 435) → σ' k = σ k) ∧ σ' 400 1 = σ 400 1
theorem pu_fK_refl : pu_fK σ σ := ⟨fun _ _ _ => rfl, rfl⟩
theorem pu_fK_trans {σ' σ'' : tw_Sg} (h1 : pu_fK σ σ') (h2 : pu_fK σ' σ'') : pu_fK σ σ'' := ⟨fun k a b => (h2.1 k a b).trans (h1.1 k a b), h2.2.trans h1.2⟩
theorem pu_fK_A {σ' : tw_Sg} (h : pu_fA σ σ') : pu_fK σ σ' := ⟨fun k a _ => h.1 k a, h.2 1 (by decide)⟩
theorem pu_fK_up {k i : Nat} {x : Int32} (hk : 403 ≤ k ∧ k < 435) : pu_fK σ (tw_up σ k i x) := ⟨fun j _ b => tw_up_n (fun e => b (by rw [e]; exact hk)), by rw [tw_up_n (show 400 ≠ k by omega)]⟩
def pu_cS (B : Nat → Nat) (L : Nat) (E : Option (Int32 × Nat)) (p : Nat) (σ : tw_Sg) : Prop := ∃ s, pu_cL B L s E σ ∧ (E = none → s = p)
/-- the Data being read -/
def pu_dC (A : Nat → Int32) (w h : Nat) (b : tw_Sg) : Prop := pu_CD b A w h (pu_v A 2) (pu_v A 3) ∧ ∀ q, pu_v A 3 ≤ q → q < 4 → b 17 q = 0 ∧ b 21 q = 0
theorem pu_bk_fr {σ' : tw_Sg} (hf : ∀ k, k ≠ 400 → σ' k = σ k) : pu_bk σ' 403 = pu_bk σ 403 := by
  funext j
  unfold pu_bk
  rw [hf (403 + j) (by omega)]
/-- the class between the steps of a statement -/
def pu_SC (B : Nat → Nat) (L w h : Nat) (σ0 : tw_Sg) (Q : tw_Sg → Prop) (E : Option (Int32 × Nat)) (p : Nat) (σ : tw_Sg) : Prop := pu_cS B L E p σ ∧ (σ 403 0 = Int32.ofNat w ∧ σ 403 1 = Int32.ofNat h) ∧ (E = none → Q (pu_bk σ 403)) ∧ pu_fK σ0 σ
theorem pu_SC_mk {σ' : tw_Sg} {E' : Option (Int32 × Nat)} {p' : Nat} (H : pu_SC B L w h σ0 Q E p σ) (hc : pu_cS B L E' p' σ') (hE : E' = none → E = none) (hf : pu_fA σ σ') : pu_SC B L w h σ0 Q E' p' σ' := by
  obtain ⟨-, ⟨h1, h2⟩, h3, h4⟩ := H
  refine ⟨hc, ?_, fun z => by rw [pu_bk_fr hf.1]; exact h3 (hE z), pu_fK_trans h4 (pu_fK_A hf)⟩
  rw [hf.1 403 (by decide)]
  exact ⟨h1, h2⟩
theorem pu_cS_any {e : Int32 × Nat} {p' : Nat} (h : pu_cS B L (some e) p σ) : pu_cS B L (some e) p' σ := by
  obtain ⟨s, h1, -⟩ := h
  exact ⟨s, h1, fun z => (by cases z)⟩
theorem pu_scA (H : pu_SC B L w h σ0 Q E p σ) (hn : 2000 < n) : pu_wp (tw_P_X6_advance n σ) (fun σ' => pu_SC B L w h σ0 Q E (pu_nx B L p) σ' ∧ pu_fA σ σ') := by
  obtain ⟨s, h1, h2⟩ := H.1
  exact pu_cons (pu_cadv h1 hn) (fun t ht => ⟨pu_SC_mk H ⟨_, ht.1, fun z => by rw [h2 z]⟩ id ht.2, ht.2⟩)
theorem pu_scF {c v : Int32} {o : Nat} (H : pu_SC B L w h σ0 Q E p σ) (hc : c ≠ 0) (hv : E = none → v = Int32.ofNat o) : pu_wp (tw_P_X6_fail c v σ) (fun σ' => pu_SC B L w h σ0 Q (pu_or E c o) p σ' ∧ pu_fA σ σ') := by
  obtain ⟨s, h1, h2⟩ := H.1
  cases E with
  | none =>
    rw [hv rfl]
    exact pu_cons (pu_cfail h1 hc) (fun t ht => ⟨pu_SC_mk H ⟨_, ht.1, fun z => absurd z pu_or0⟩ (fun z => absurd z pu_or0) ht.2, ht.2⟩)
  | some e =>
    have : tw_P_X6_fail c v σ = some σ := by
      unfold tw_P_X6_fail
      dsimp only [tw_jn]
      exact if_pos (fun z => h1.2.2.2.2.1 (h1.2.2.2.1.symm.trans z))
    exact ⟨σ, this, H, pu_fA_refl⟩
theorem pu_scW {q : Nat} (H : pu_SC B L w h σ0 Q E p σ) (hq : q < 21) (hn : 2000 < n) : pu_wp (tw_P_X6_takeWord n q σ) (fun σ' => pu_SC B L w h σ0 Q (pu_fs E (pu_isW B L p q = true) (-2) p) (pu_nx B L p) σ' ∧ pu_fA σ σ') := by
  obtain ⟨s, h1, h2⟩ := H.1
  refine pu_cons (pu_ctakeW h1 hq hn) (fun t ht => ⟨pu_SC_mk H ⟨pu_nx B L s, ?_, fun z => by rw [h2 (pu_fs0.mp z).1]⟩ (fun z => (pu_fs0.mp z).1) ht.2, ht.2⟩)
  cases E with
  | none =>
    have e := h2 rfl
    subst e
    by_cases c : pu_isW B L s q = true
    · rw [pu_fs_y c]
      have := ht.1
      rw [if_pos c] at this
      exact this
    · rw [pu_fs_nE c]
      have := ht.1
      rw [if_neg c] at this
      exact this
  | some e =>
    have := ht.1
    by_cases c : pu_isW B L s q = true
    · rw [if_pos c] at this; exact this
    · rw [if_neg c] at this; exact this
theorem pu_scS (H : pu_SC B L w h σ0 Q E p σ) (hn : 2000 < n) : pu_wp (tw_P_X6_takeSemicolon n σ) (fun σ' => pu_SC B L w h σ0 Q (pu_fs E (pu_semi B L p = true) (-2) p) (pu_nx B L p) σ' ∧ pu_fA σ σ') := by
  obtain ⟨s, h1, h2⟩ := H.1
  refine pu_cons (pu_ctakeS h1 hn) (fun t ht => ⟨pu_SC_mk H ⟨pu_nx B L s, ?_, fun z => by rw [h2 (pu_fs0.mp z).1]⟩ (fun z => (pu_fs0.mp z).1) ht.2, ht.2⟩)
  cases E with
  | none =>
    have e := h2 rfl
    subst e
    by_cases c : pu_semi B L s = true
    · rw [pu_fs_y c]
      have := ht.1
      rw [if_pos c] at this
      exact this
    · rw [pu_fs_nE c]
      have := ht.1
      rw [if_neg c] at this
      exact this
  | some e =>
    have := ht.1
    by_cases c : pu_semi B L s = true
    · rw [if_pos c] at this; exact this
    · rw [if_neg c] at this; exact this
/-- a number: a value in the range in any case -/
theorem pu_scN {lo hi : Int32} {a b lo' : Nat} (H : pu_SC B L w h σ0 Q E p σ) (hlo : lo = Int32.ofNat a) (hhi : hi = Int32.ofNat b) (hab : a ≤ b) (hb : b < 100) (ha : E = none → a = lo') (hn : 2000 < n) : pu_wp (tw_P_X6_takeNumber n lo hi σ) (fun r => (∃ v, r.1 = Int32.ofNat v ∧ a ≤ v ∧ v ≤ b ∧ (pu_eN B L E lo' b p = none → v = pu_num B L p)) ∧ pu_SC B L w h σ0 Q (pu_eN B L E lo' b p) (pu_nx B L p) r.2 ∧ pu_fA σ r.2) := by
  obtain ⟨s, h1, h2⟩ := H.1
  have hlI : lo.toInt = (a : Int) := by rw [hlo]; exact pu_toInt (by omega)
  have hhI : hi.toInt = (b : Int) := by rw [hhi]; exact pu_toInt (by omega)
  refine pu_cons (pu_ctakeN h1 hn) (fun r hr => ?_)
  obtain ⟨r1, r2, r3⟩ := hr
  rw [hlI, hhI] at r1 r2
  by_cases c : pu_numOk B L s a b
  · obtain ⟨g1, g2⟩ := r1 c
    obtain ⟨c0, c1, c2⟩ := id c
    refine ⟨⟨_, g1, by omega, by omega, fun z => ?_⟩, pu_SC_mk H ⟨pu_nx B L s, ?_, fun z => by rw [h2 (pu_fs0.mp z).1]⟩ (fun z => (pu_fs0.mp z).1) r3, r3⟩
    · rw [h2 (pu_fs0.mp z).1] at c1 c2 ⊢
      unfold pu_cap at c1 c2 ⊢
      omega
    · cases E with
      | some e => exact g2
      | none =>
        have e1 := h2 rfl
        have e2 := ha rfl
        subst e1; subst e2
        unfold pu_eN
        rw [pu_fs_y ((pu_numOk_iff (by omega)).mp c)]
        exact g2
  · obtain ⟨g1, g2⟩ := r2 c
    have hE : pu_eN B L E lo' b p = none → False := fun z => by
      obtain ⟨z1, z2⟩ := pu_fs0.mp z
      rw [← h2 z1, ← ha z1] at z2
      exact c ((pu_numOk_iff (by omega)).mpr z2)
    refine ⟨⟨a, g1.trans hlo, Nat.le_refl _, hab, fun z => (hE z).elim⟩, pu_SC_mk H ⟨s, ?_, fun z => (hE z).elim⟩ (fun z => (hE z).elim) r3, r3⟩
    cases E with
    | some e => exact g2
    | none =>
      have e1 := h2 rfl
      have e2 := ha rfl
      subst e1; subst e2
      unfold pu_eN pu_nc
      rw [pu_fs_nE (fun z => c ((pu_numOk_iff (by omega)).mpr z))]
      exact g2
theorem pu_SC_p (H : pu_SC B L w h σ0 Q E p σ) (hE : E = none) : σ 400 4 = Int32.ofNat p ∧ p ≤ L := by
  obtain ⟨s, h1, h2⟩ := H.1
  have := h2 hE
  subst this
  exact ⟨h1.2.1.1, h1.2.2.1⟩
theorem pu_SC_e (H : pu_SC B L w h σ0 Q E p σ) {p' : Nat} (h0 : E = none → p = p') : pu_SC B L w h σ0 Q E p' σ := by
  obtain ⟨⟨s, h1, h2⟩, H2⟩ := H
  exact ⟨⟨s, h1, fun z => (h2 z).trans (h0 z)⟩, H2⟩
/-- another row where it matters, other places of the Data -/
theorem pu_SC_set {σ' : tw_Sg} {Q' : tw_Sg → Prop} (H : pu_SC B L w h σ0 Q E p σ) (hd : σ' 403 0 = σ 403 0 ∧ σ' 403 1 = σ 403 1) (h4 : σ' 400 = σ 400) (hf : ∀ k, ¬ (403 ≤ k ∧ k < 435) → σ' k = σ k) (hD : E = none → Q' (pu_bk σ' 403)) : pu_SC B L w h σ0 Q' E p σ' := by
  obtain ⟨⟨s, ⟨t1, t2, t3, t4⟩, h2⟩, ⟨d1, d2⟩, -, g⟩ := H
  refine ⟨⟨s, ⟨⟨?_, t1.2.1, fun i hi => ?_⟩, ?_, t3, ?_⟩, h2⟩, ⟨hd.1.trans d1, hd.2.trans d2⟩, hD, pu_fK_trans g ⟨fun k _ b => hf k b, by rw [h4]⟩⟩
  · rw [h4]; exact t1.1
  · rw [hf 402 (by omega)]; exact t1.2.2 i hi
  · rw [h4]; exact t2
  · cases E with
    | none => show σ' 400 7 = 0 ∧ σ' 400 8 = -1; rw [h4]; exact t4
    | some e => show σ' 400 7 = e.1 ∧ e.1 ≠ 0 ∧ σ' 400 8 = Int32.ofNat e.2; rw [h4]; exact t4
end SC
/-! the reference's state -/
section SR
variable {σ σ0 : tw_Sg} {B : Nat → Nat} {L p n w h : Nat} {E : Option (Int32 × Nat)} {A : Nat → Int32}
def pu_fT (σ σ' : tw_Sg) : Prop := (∀ k, k ≠ 442 → k ≠ 445 → σ' k = σ k) ∧ ∀ i, ¬ (4 ≤ i ∧ i < 7) → ¬ (12 ≤ i ∧ i < 19) → σ' 442 i = σ 442 i
theorem pu_fT_refl : pu_fT σ σ := ⟨fun _ _ _ => rfl, fun _ _ _ => rfl⟩
theorem pu_fT_trans {σ' σ'' : tw_Sg} (h1 : pu_fT σ σ') (h2 : pu_fT σ' σ'') : pu_fT σ σ'' := ⟨fun k a b => (h2.1 k a b).trans (h1.1 k a b), fun i a b => (h2.2 i a b).trans (h1.2 i a b)⟩
theorem pu_fT_B {σ' : tw_Sg} (h : pu_fB σ σ') : pu_fT σ σ' := ⟨fun k a _ => h.1 k a, fun i a b => h.2 i (by omega) (by omega) (by omega) (by omega)⟩
/-- the row being read and the told team -/
def pu_SR (B : Nat → Nat) (L : Nat) (σ0 : tw_Sg) (A : Nat → Int32) (E : Option (Int32 × Nat)) (p : Nat) (σ : tw_Sg) : Prop := pu_rL B L p E σ ∧ (∀ j, 1028 ≤ j → σ 445 j = 0) ∧ (E = none → σ 445 = upd A 4 0 ∧ σ 442 13 = A 4) ∧ pu_fT σ0 σ
theorem pu_SR_mk {σ' : tw_Sg} {E' : Option (Int32 × Nat)} {p' : Nat} (H : pu_SR B L σ0 A E p σ) (hc : pu_rL B L p' E' σ') (hE : E' = none → E = none) (hf : pu_fB σ σ') : pu_SR B L σ0 A E' p' σ' := by
  obtain ⟨-, h2, h3, h4⟩ := H
  refine ⟨hc, fun j hj => by rw [hf.1 445 (by decide)]; exact h2 j hj, fun z => ?_, pu_fT_trans h4 (pu_fT_B hf)⟩
  rw [hf.1 445 (by decide), hf.2 13 (by decide) (by decide) (by decide) (by decide)]
  exact h3 (hE z)
theorem pu_rL_e {p' : Nat} (h : pu_rL B L p E σ) (h0 : E = none → p = p') : pu_rL B L p' E σ := by
  cases E with
  | none => have := h0 rfl; subst this; exact h
  | some e => exact pu_rL_any h
theorem pu_SR_e (H : pu_SR B L σ0 A E p σ) {p' : Nat} (h0 : E = none → p = p') : pu_SR B L σ0 A E p' σ := ⟨pu_rL_e H.1 h0, H.2⟩
theorem pu_sr445 (H : pu_SR B L σ0 A E p σ) (hE : E = none) {j : Nat} (hj : j ≠ 4) : σ 445 j = A j := by rw [(H.2.2.1 hE).1, pu_upd_n hj]
theorem pu_SR_442 {i : Nat} {x : Int32} (H : pu_SR B L σ0 A E p σ) (hi : 14 ≤ i ∧ i < 19) : pu_SR B L σ0 A E p (tw_up σ 442 i x) := by
  obtain ⟨⟨a1, a2, a3⟩, h2, h3, h4⟩ := H
  refine ⟨⟨pu_rT_up a1 (by omega), pu_eRr_up a2 (by omega) (by omega), fun z => ?_⟩, fun j hj => by rw [tw_up_n (by decide)]; exact h2 j hj, fun z => ?_, pu_fT_trans h4 ⟨fun k b _ => tw_up_n b, fun j b c => pu_u442 (by omega)⟩⟩
  · rw [pu_u442 (show 4 ≠ i by omega)]; exact a3 z
  · rw [tw_up_n (show 445 ≠ 442 by decide), pu_u442 (show 13 ≠ i by omega)]; exact h3 z
/-- a place of the row -/
theorem pu_SR_445 {i : Nat} {x : Int32} {A' : Nat → Int32} (H : pu_SR B L σ0 A none p σ) (hi : i < 1028) (hA : upd A' 4 0 = upd (upd A 4 0) i x) (h4 : A' 4 = A 4) : pu_SR B L σ0 A' none p (tw_up σ 445 i x) := by
  obtain ⟨⟨⟨a1, a2, a3⟩, a4, a5⟩, h2, h3, h4'⟩ := H
  obtain ⟨g1, g2⟩ := h3 rfl
  refine ⟨⟨⟨?_, a2, fun j hj => ?_⟩, ?_, fun _ => ?_⟩, fun j hj => ?_, fun _ => ⟨?_, ?_⟩, pu_fT_trans h4' ⟨fun k _ b => tw_up_n b, fun j _ _ => by rw [tw_up_n (show 442 ≠ 445 by decide)]⟩⟩
  · rw [tw_up_n (show 442 ≠ 445 by decide)]; exact a1
  · rw [tw_up_n (show 443 ≠ 445 by decide)]; exact a3 j hj
  · show tw_up σ 445 i x 442 5 = 0 ∧ tw_up σ 445 i x 442 6 = -1
    rw [tw_up_n (show 442 ≠ 445 by decide)]; exact a4
  · rw [tw_up_n (show 442 ≠ 445 by decide)]; exact a5 rfl
  · rw [tw_up_s, pu_upd_n (by omega)]; exact h2 j hj
  · rw [tw_up_s, g1, hA]
  · rw [tw_up_n (show 442 ≠ 445 by decide), h4]; exact g2
end SR
