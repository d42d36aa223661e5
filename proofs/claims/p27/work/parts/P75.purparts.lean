/-! parts: the reference lays them -/
theorem pu_nbr_sub {g g' : Nat → Bool} {w h c b : Nat} (hs : ∀ d, g' d = true → g d = true) : pu_nbr g' w h c b = (match pu_nbr g w h c b with | some c' => if g' c' then some c' else none | none => none) := by
  unfold pu_nbr
  cases pu_gnb w h c b with
  | none => rfl
  | some c' =>
    dsimp only []
    cases e : g c' with
    | true => rfl
    | false =>
      cases e2 : g' c' with
      | true => rw [hs c' e2] at e; cases e
      | false => rfl
theorem pu_ofInt {a : Nat} (h : a < 2147483648) : Int32.ofInt (a : Int) = Int32.ofNat a := by
  apply Int32.toInt_inj.1
  rw [pu_toInt h, pu_int (by omega) (by omega)]
theorem pu_left_land {a : Nat → Int32} {w h nb nc d : Nat} (hl : pu_left a w h nb nc d = true) : pu_land a d = true := by
  unfold pu_left pu_cand at hl
  cases e : pu_land a d with
  | true => rfl
  | false => rw [e] at hl; cases hl
def pu_FL (k : Nat) : Prop := pu_F11 k ∨ k = 509 ∨ k = 510
def pu_RP (σ : tw_Sg) (a : Nat → Int32) (w h nb nc : Nat) (s : tw_Sg) : Prop := pu_RL s a w h nb nc ∧ (∀ i, i ≠ 22 → s 442 i = σ 442 i) ∧ pu_fr pu_FL σ s
theorem pu_RP_up {σ s : tw_Sg} {a : Nat → Int32} {w h nb nc A i : Nat} {x : Int32} (H : pu_WF a w h nb nc) (hA : A = 509 ∨ A = 510) (hP : pu_RP σ a w h nb nc s) : pu_RP σ a w h nb nc (tw_up s A i x) := by
  obtain ⟨⟨p1, p2⟩, p3, p4⟩ := hP
  have h4 : tw_up s A i x 444 = s 444 := tw_up_n (by omega)
  have h2 : tw_up s A i x 442 = s 442 := tw_up_n (by omega)
  refine ⟨⟨h4.trans p1, ?_⟩, fun j hj => by rw [h2]; exact p3 j hj, pu_fr_trans p4 (pu_fr_up (Or.inr hA))⟩
  rw [h2]
  rcases p2 with z | ⟨z1, z2⟩
  · exact Or.inl z
  · have hnc := H.2.2.1.2.1
    refine Or.inr ⟨z1, fun q hq l hl => pu_es_cong (z2 q hq l hl) (tw_up_n ?_)⟩
    have h9 : pu_nl a q < 9 := (H.2.2.1.2.2 q hq).2.2.1.2
    unfold pu_En; omega
/-- labels in 510, the queue in 509 -/
def pu_RK (s : tw_Sg) (m : Nat) (L : Nat → Int) (st : pu_St) : Prop := (∀ c, c < m → s 510 c = Int32.ofInt (L c)) ∧ ∀ i, i < st.2.2 → s 509 i = Int32.ofNat (st.2.1 i)
