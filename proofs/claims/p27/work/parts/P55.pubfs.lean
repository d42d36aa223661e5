/-! counting, and the search by neighbours: (distance by cell, -1: none; the queue; how many are in it) -/
def pu_cnt (p : Nat → Bool) : Nat → Nat
  | 0 => 0
  | n + 1 => pu_cnt p n + if p n then 1 else 0
theorem pu_cnt_le (p : Nat → Bool) : ∀ n, pu_cnt p n ≤ n
  | 0 => Nat.le_refl _
  | n + 1 => by
    have := pu_cnt_le p n
    show pu_cnt p n + (if p n then 1 else 0) ≤ n + 1
    split <;> omega
theorem pu_cnt_cong {p q : Nat → Bool} : ∀ n, (∀ i, i < n → p i = q i) → pu_cnt p n = pu_cnt q n
  | 0, _ => rfl
  | n + 1, h => by
    show pu_cnt p n + (if p n then 1 else 0) = pu_cnt q n + (if q n then 1 else 0)
    rw [pu_cnt_cong n (fun i hi => h i (by omega)), h n (by omega)]
theorem pu_cnt_one {p q : Nat → Bool} {d : Nat} (hp : p d = false) (hq : q d = true) (he : ∀ i, i ≠ d → q i = p i) : ∀ n, pu_cnt q n = pu_cnt p n + if d < n then 1 else 0
  | 0 => rfl
  | n + 1 => by
    have ih := pu_cnt_one hp hq he n
    show pu_cnt q n + (if q n then 1 else 0) = pu_cnt p n + (if p n then 1 else 0) + _
    rw [ih]
    by_cases h : n = d
    · subst h
      simp [hp, hq]
    · rw [he n h]
      have e : (d < n + 1) ↔ (d < n) := by omega
      simp only [e]
      omega
abbrev pu_St : Type := (Nat → Int) × (Nat → Nat) × Nat
def pu_vis (g : Nat → Bool) (w h : Nat) (st : pu_St) (c b : Nat) : pu_St := match pu_nbr g w h c b with
  | some c' => if st.1 c' < 0 then (va_up st.1 c' (st.1 c + 1), va_up st.2.1 st.2.2 c', st.2.2 + 1) else st
  | none => st
def pu_visN (g : Nat → Bool) (w h : Nat) (st : pu_St) (c : Nat) : Nat → pu_St
  | 0 => st
  | b + 1 => pu_vis g w h (pu_visN g w h st c b) c b
def pu_bf (g : Nat → Bool) (w h : Nat) (st : pu_St) : Nat → pu_St
  | 0 => st
  | i + 1 => if i < (pu_bf g w h st i).2.2 then pu_visN g w h (pu_bf g w h st i) ((pu_bf g w h st i).2.1 i) 8 else pu_bf g w h st i
/-- what holds of the search all along; c0 cells were measured ahead of it -/
def pu_BI (m c0 : Nat) (st : pu_St) : Prop := pu_cnt (fun c => decide (0 ≤ st.1 c)) m = st.2.2 + c0 ∧ (∀ j, j < st.2.2 → st.2.1 j < m ∧ 0 ≤ st.1 (st.2.1 j) ∧ st.1 (st.2.1 j) ≤ (j : Int)) ∧ (∀ c, c < m → -1 ≤ st.1 c ∧ st.1 c ≤ 400)
theorem pu_BI_le {m c0 : Nat} {st : pu_St} (h : pu_BI m c0 st) : st.2.2 + c0 ≤ m := by rw [← h.1]; exact pu_cnt_le _ _
theorem pu_vis_BI {g : Nat → Bool} {w h c0 i c b : Nat} {st : pu_St} (hw : w ≤ 20) (hh : h ≤ 20) (H : pu_BI (w * h) c0 st) (hi : i < st.2.2) (hc : c < w * h) (hd0 : 0 ≤ st.1 c) (hd : st.1 c ≤ (i : Int)) (hb : b < 8) : pu_BI (w * h) c0 (pu_vis g w h st c b) ∧ i < (pu_vis g w h st c b).2.2 ∧ 0 ≤ (pu_vis g w h st c b).1 c ∧ (pu_vis g w h st c b).1 c ≤ (i : Int) := by
  have hm : w * h ≤ 400 := by
    calc w * h ≤ 20 * 20 := Nat.mul_le_mul hw hh
      _ = 400 := rfl
  have hle := pu_BI_le H
  unfold pu_vis
  cases hn : pu_nbr g w h c b with
  | none => exact ⟨H, hi, hd0, hd⟩
  | some c' =>
    have hc' := pu_nbr_lt hw hh hc hb hn
    dsimp only []
    by_cases hneg : st.1 c' < 0
    · rw [if_pos hneg]
      obtain ⟨H1, H2, H3⟩ := H
      have hne : c ≠ c' := fun e => by subst e; omega
      have hcn : pu_cnt (fun x => decide (0 ≤ va_up st.1 c' (st.1 c + 1) x)) (w * h) = pu_cnt (fun x => decide (0 ≤ st.1 x)) (w * h) + 1 := by
        rw [pu_cnt_one (p := fun x => decide (0 ≤ st.1 x)) (d := c') (decide_eq_false (by omega)) (by rw [va_up_self]; exact decide_eq_true (by omega)) (fun x hx => by rw [va_up_ne _ _ hx]), if_pos hc']
      refine ⟨⟨?_, fun j hj => ?_, fun x hx => ?_⟩, ?_, ?_, ?_⟩
      · show pu_cnt (fun x => decide (0 ≤ va_up st.1 c' (st.1 c + 1) x)) (w * h) = st.2.2 + 1 + c0
        rw [hcn, H1]; omega
      · show va_up st.2.1 st.2.2 c' j < w * h ∧ 0 ≤ va_up st.1 c' (st.1 c + 1) (va_up st.2.1 st.2.2 c' j) ∧ va_up st.1 c' (st.1 c + 1) (va_up st.2.1 st.2.2 c' j) ≤ (j : Int)
        have hj : j < st.2.2 + 1 := hj
        by_cases e : j = st.2.2
        · subst e
          rw [va_up_self, va_up_self]
          exact ⟨hc', by omega, by omega⟩
        · rw [va_up_ne _ _ e]
          obtain ⟨a1, a2, a3⟩ := H2 j (by omega)
          rw [va_up_ne _ _ (fun e2 => by rw [e2] at a2; omega)]
          exact ⟨a1, a2, a3⟩
      · show -1 ≤ va_up st.1 c' (st.1 c + 1) x ∧ va_up st.1 c' (st.1 c + 1) x ≤ 400
        by_cases e : x = c'
        · subst e; rw [va_up_self]; constructor <;> omega
        · rw [va_up_ne _ _ e]; exact H3 x hx
      · show i < st.2.2 + 1; omega
      · show 0 ≤ va_up st.1 c' (st.1 c + 1) c
        rw [va_up_ne _ _ hne]; exact hd0
      · show va_up st.1 c' (st.1 c + 1) c ≤ _
        rw [va_up_ne _ _ hne]; exact hd
    · rw [if_neg hneg]
      exact ⟨H, hi, hd0, hd⟩
theorem pu_visN_BI {g : Nat → Bool} {w h c0 i c : Nat} {st : pu_St} (hw : w ≤ 20) (hh : h ≤ 20) (H : pu_BI (w * h) c0 st) (hi : i < st.2.2) (hc : c < w * h) (hd0 : 0 ≤ st.1 c) (hd : st.1 c ≤ (i : Int)) : ∀ b, b ≤ 8 → pu_BI (w * h) c0 (pu_visN g w h st c b) ∧ i < (pu_visN g w h st c b).2.2 ∧ 0 ≤ (pu_visN g w h st c b).1 c ∧ (pu_visN g w h st c b).1 c ≤ (i : Int)
  | 0, _ => ⟨H, hi, hd0, hd⟩
  | b + 1, hb => by
    obtain ⟨a1, a2, a3, a4⟩ := pu_visN_BI hw hh H hi hc hd0 hd b (by omega)
    exact pu_vis_BI hw hh a1 a2 hc a3 a4 (by omega)
theorem pu_bf_BI {g : Nat → Bool} {w h c0 : Nat} {st : pu_St} (hw : w ≤ 20) (hh : h ≤ 20) (H : pu_BI (w * h) c0 st) : ∀ i, pu_BI (w * h) c0 (pu_bf g w h st i)
  | 0 => H
  | i + 1 => by
    have ih := pu_bf_BI (g := g) hw hh H i
    show pu_BI _ _ (if _ then _ else _)
    split
    · rename_i hi
      obtain ⟨a1, a2, a3⟩ := ih.2.1 i hi
      exact (pu_visN_BI hw hh ih hi a1 a2 a3 8 (Nat.le_refl _)).1
    · exact ih
/-- behind its end the search stays as it is -/
theorem pu_bf_end {g : Nat → Bool} {w h i : Nat} {st : pu_St} (he : ¬ i < (pu_bf g w h st i).2.2) : ∀ k, pu_bf g w h st (i + k) = pu_bf g w h st i
  | 0 => rfl
  | k + 1 => by
    have ih := pu_bf_end he k
    show (if i + k < (pu_bf g w h st (i + k)).2.2 then _ else pu_bf g w h st (i + k)) = _
    rw [ih, if_neg (by omega)]
/-! the class's search: distances in the array 137, the queue in 139 -/
def pu_RC (σ : tw_Sg) (w m : Nat) (st : pu_St) : Prop := (∀ c, c < m → σ 137 (pu_sp w c) = Int32.ofInt (st.1 c)) ∧ ∀ i, i < st.2.2 → σ 139 i = Int32.ofNat (pu_sp w (st.2.1 i))
def pu_F2 (k : Nat) : Prop := k = 137 ∨ k = 139
theorem pu_neg1 {z : Int} (h1 : -1 ≤ z) (h2 : z ≤ 400) : (0 : Int32) ≤ Int32.ofInt z ↔ ¬ z < 0 := by
  rw [Int32.le_iff_toInt_le, pu_int (by omega) (by omega), Int32.toInt_zero]
  omega
theorem pu_neg2 {z : Int} (h1 : -1 ≤ z) (h2 : z ≤ 400) : Int32.ofInt z < (0 : Int32) ↔ z < 0 := by
  rw [Int32.lt_iff_toInt_lt, pu_int (by omega) (by omega), Int32.toInt_zero]
theorem pu_cvisit {σ : tw_Sg} {g : Nat → Bool} {w h c0 i c n r0 : Nat} {st : pu_St} (hw : w ≤ 20) (hh : h ≤ 20) (hn : 100 < n) (H : pu_BI (w * h) c0 st) (hi : i < st.2.2) (hc : c < w * h) (hd0 : 0 ≤ st.1 c) (hd : st.1 c ≤ (i : Int)) (hk : tw_kd r0 = 0) (hr0 : ¬ pu_F2 (r0 + 1)) (hg : pu_set σ (r0 + 1) w (w * h) g) (hR : pu_RC σ w (w * h) st) :
    pu_wp (tw_P_X3_visitNeighbours n r0 (Int32.ofNat (pu_sp w c)) (Int32.ofNat st.2.2) σ) (fun r => r.1 = Int32.ofNat (pu_visN g w h st c 8).2.2 ∧ pu_RC r.2 w (w * h) (pu_visN g w h st c 8) ∧ pu_fr pu_F2 σ r.2) := by
  have hm : w * h ≤ 400 := by
    calc w * h ≤ 20 * 20 := Nat.mul_le_mul hw hh
      _ = 400 := rfl
  dsimp only [tw_P_X3_visitNeighbours, tw_lt]
  refine pu_lp (J := fun a => ∃ b, b ≤ 8 ∧ a.2.1 = Int32.ofNat b ∧ a.1 = Int32.ofNat (pu_visN g w h st c b).2.2 ∧ pu_RC a.2.2 w (w * h) (pu_visN g w h st c b) ∧ pu_fr pu_F2 σ a.2.2) (m := fun a => 8 - a.2.1.toNatClampNeg) ?_ n _ (by show 8 - _ < n; omega) ⟨0, by omega, rfl, rfl, hR, pu_fr_refl⟩
  rintro k ⟨sz, bb, σ1⟩ ⟨b, hb, e1, e2, hR1, hF⟩ hk1
  dsimp only [] at e1 e2 hR1 hF
  subst e1; subst e2
  dsimp only []
  refine pu_if (fun h8 => ?_) (fun h8 => ?_)
  · have h8 : 8 ≤ b := (pu_le (a := 8) (b := b) (by decide) (by omega)).mp h8
    have : b = 8 := by omega
    subst this
    exact pu_some ⟨rfl, hR1, hF⟩
  · have h8 : b < 8 := by
      rcases Nat.lt_or_ge b 8 with q | q
      · exact q
      · exact absurd ((pu_le (a := 8) (b := b) (by decide) (by omega)).mpr q) h8
    obtain ⟨B1, B2, B3, B4⟩ := pu_visN_BI (g := g) hw hh H hi hc hd0 hd b hb
    have hle := pu_BI_le B1
    have hs := pu_sp_rng hw hh hc
    refine pu_bde (pu_neigh hs.1 (b := b) (by rw [← Int32.ofInt_eq_ofNat, pu_and7]; congr 1; omega) h8) ?_
    have hg1 : pu_set σ1 (r0 + 1) w (w * h) g := pu_set_cong hg (hF _ hr0)
    obtain ⟨g1, g2⟩ := pu_has_nb hk hw hh hc h8 hg1
    refine pu_bde g1 ?_
    have hstep : pu_visN g w h st c (b + 1) = pu_vis g w h (pu_visN g w h st c b) c b := rfl
    have em : Int32.ofNat b + (1 : Int32) = Int32.ofNat (b + 1) := pu_add b 1
    have hgo : ∀ (σ2 : tw_Sg) (sz2 : Int32), sz2 = Int32.ofNat (pu_visN g w h st c (b + 1)).2.2 → pu_RC σ2 w (w * h) (pu_visN g w h st c (b + 1)) → pu_fr pu_F2 σ σ2 → pu_wp (k (sz2, Int32.ofNat b + (1 : Int32), σ2)) (fun r => r.1 = Int32.ofNat (pu_visN g w h st c 8).2.2 ∧ pu_RC r.2 w (w * h) (pu_visN g w h st c 8) ∧ pu_fr pu_F2 σ r.2) := by
      intro σ2 sz2 q1 q2 q3
      rw [em]
      refine hk1 _ ⟨b + 1, by omega, rfl, q1, q2, q3⟩ ?_
      show 8 - (Int32.ofNat (b + 1)).toNatClampNeg < 8 - (Int32.ofNat b).toNatClampNeg
      rw [pu_n (by omega), pu_n (by omega)]
      omega
    generalize pu_visN g w h st c b = s1 at *
    dsimp only [tw_jn]
    cases hnb : pu_nbr g w h c b with
    | none =>
      refine pu_ift (by simp) ?_
      have hv : pu_vis g w h s1 c b = s1 := by unfold pu_vis; rw [hnb]
      rw [hstep, hv] at hgo
      exact hgo σ1 _ rfl hR1 hF
    | some c' =>
      have hc' := pu_nbr_lt hw hh hc h8 hnb
      have hs' := pu_sp_rng hw hh hc'
      refine pu_iff (by simp) ?_
      rw [g2 c' hnb]
      refine pu_bde (pu_get (N := 704) (by decide +kernel) (by decide) (by omega)) ?_
      rw [hR1.1 c' hc']
      obtain ⟨b3, b4⟩ := B1.2.2 c' hc'
      refine pu_if (fun hp => ?_) (fun hp => ?_)
      · rw [pu_neg1 b3 b4] at hp
        have hv : pu_vis g w h s1 c b = s1 := by unfold pu_vis; rw [hnb]; exact if_neg hp
        rw [hstep, hv] at hgo
        exact hgo σ1 _ rfl hR1 hF
      · rw [pu_neg1 b3 b4] at hp
        have hp : s1.1 c' < 0 := by omega
        have hv : pu_vis g w h s1 c b = (va_up s1.1 c' (s1.1 c + 1), va_up s1.2.1 s1.2.2 c', s1.2.2 + 1) := by unfold pu_vis; rw [hnb]; exact if_pos hp
        rw [hstep, hv] at hgo
        have hsz : s1.2.2 < w * h := by
          have hh1 := pu_cnt_one (p := fun x => decide (0 ≤ s1.1 x)) (q := fun x => decide (0 ≤ va_up s1.1 c' 0 x)) (d := c') (decide_eq_false (by omega)) (by rw [va_up_self]; rfl) (fun x hx => by rw [va_up_ne _ _ hx]) (w * h)
          rw [if_pos hc', B1.1] at hh1
          have := pu_cnt_le (fun x => decide (0 ≤ va_up s1.1 c' 0 x)) (w * h)
          omega
        refine pu_bde (pu_get (N := 704) (by decide +kernel) (by decide) (by omega)) ?_
        rw [hR1.1 c hc]
        refine pu_bde (pu_put (N := 704) (by decide +kernel) (by decide) (by omega)) ?_
        refine pu_bde (pu_put (N := 400) (by decide +kernel) (by decide) (by omega)) ?_
        refine hgo _ _ (pu_add _ 1) ⟨fun x hx => ?_, fun j hj => ?_⟩ (pu_fr_trans hF (pu_fr_trans (pu_fr_up (Or.inl rfl)) (pu_fr_up (Or.inr rfl))))
        · rw [tw_up_n (by decide), tw_up_s]
          unfold upd
          by_cases e : x = c'
          · subst e
            rw [if_pos rfl]
            show _ = Int32.ofInt (va_up s1.1 x (s1.1 c + 1) x)
            rw [va_up_self, Int32.ofInt_add]
            rfl
          · rw [if_neg (fun e2 => e (pu_sp_inj hw hx hc' e2))]
            show _ = Int32.ofInt (va_up s1.1 c' (s1.1 c + 1) x)
            rw [va_up_ne _ _ e]
            exact hR1.1 x hx
        · rw [tw_up_s]
          unfold upd
          by_cases e : j = s1.2.2
          · subst e
            rw [if_pos rfl]
            show _ = Int32.ofNat (pu_sp w (va_up s1.2.1 s1.2.2 c' s1.2.2))
            rw [va_up_self]
          · rw [if_neg e, tw_up_n (by decide)]
            show _ = Int32.ofNat (pu_sp w (va_up s1.2.1 s1.2.2 c' j))
            rw [va_up_ne _ _ e]
            have hj : j < s1.2.2 + 1 := hj
            exact hR1.2 j (by omega)
