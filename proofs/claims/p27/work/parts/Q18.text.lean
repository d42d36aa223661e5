/-! the law writes a text: bytes packed into the buffer, appended by twenties -/
theorem dq_N_or {x y : Int32} : pu_N (x ||| y) = pu_N x ||| pu_N y := BitVec.toNat_or _ _
theorem dq_byt_or {x y : Int32} {j : Nat} : pu_byt (x ||| y) j = pu_byt x j ||| pu_byt y j := by
  unfold pu_byt
  rw [dq_N_or]
  apply Nat.eq_of_testBit_eq
  intro i
  rw [show (256 : Nat) = 2 ^ 8 from rfl, Nat.testBit_mod_two_pow, Nat.testBit_or, Nat.testBit_mod_two_pow, Nat.testBit_mod_two_pow, Nat.testBit_div_two_pow, Nat.testBit_div_two_pow, Nat.testBit_div_two_pow, Nat.testBit_or]
  cases decide (i < 8) <;> simp
theorem dq_byt_shl {c j0 j : Nat} (hc : c < 256) (hj0 : j0 < 4) (hj : j < 4) : pu_byt (Int32.ofNat c <<< ((Int32.ofNat (24 - 8 * j0)) &&& 31)) j = if j = j0 then c else 0 := by
  have key : ∀ j0 : Fin 4, ∀ j : Fin 4, ∀ c : Fin 256, pu_byt (Int32.ofNat c.val <<< ((Int32.ofNat (24 - 8 * j0.val)) &&& 31)) j.val = if j.val = j0.val then c.val else 0 := by decide +kernel
  exact key ⟨j0, hj0⟩ ⟨j, hj⟩ ⟨c, hc⟩
theorem dq_byt0 {j : Nat} : pu_byt (0 : Int32) j = 0 := by
  unfold pu_byt
  have e : pu_N (0 : Int32) = 0 := rfl
  rw [e, Nat.zero_div]
section DQE
variable {Y Y' : dw_S} {bf n w h nb nc cn : Nat} {a : Nat → Int32} {hist : Nat → Nat → Int32} {err : Int32} {T : List Nat}
/-- the text so far -/
def dq_TX (bf : Nat) (w h nb nc : Nat) (a : Nat → Int32) (cn : Nat) (hist : Nat → Nat → Int32) (err : Int32) (T : List Nat) (Y : dw_S) : Prop := dq_A1 Y bf 20 8 ∧ dw_i Y bf 0 = Int32.ofNat T.length ∧ (∀ i, T.getD i 0 < 256) ∧ (∃ buf, pu_IC (dw_s Y) w h nb nc a cn hist (20 * (T.length / 20)) buf err ∧ ∀ i, i < 20 * (T.length / 20) → buf i = T.getD i 0) ∧ ∀ m, m < 5 → ∀ j, j < 4 → pu_byt (dw_i Y bf (1 + m)) j = T.getD (20 * (T.length / 20) + 4 * m + j) 0
/-- writing leaves the rest of the heap -/
def dq_wr (bf : Nat) (Y Y' : dw_S) : Prop := dq_fr (fun k _ => k = bf) dq_no Y (dw_cs Y' (dw_s Y))
theorem dq_wr_refl : dq_wr bf Y Y := dq_fr_refl
theorem dq_wr_tr {Y'' : dw_S} (F : dq_wr bf Y Y') (G : dq_wr bf Y' Y'') : dq_wr bf Y Y'' := dq_fr_tr F ⟨rfl, G.2.1, G.2.2.1, G.2.2.2.1, G.2.2.2.2⟩
theorem dq_getD_big {T : List Nat} {i : Nat} (h : T.length ≤ i) : T.getD i 0 = 0 := by
  rw [List.getD_eq_getElem?_getD, List.getElem?_eq_none h]; rfl
theorem dq_getD_snoc {T : List Nat} {c i : Nat} : (T ++ [c]).getD i 0 = if i = T.length then c else T.getD i 0 := by
  rw [List.getD_eq_getElem?_getD, List.getD_eq_getElem?_getD]
  by_cases h : i < T.length
  · rw [List.getElem?_append_left h, if_neg (by omega)]
  · rw [List.getElem?_append_right (by omega)]
    by_cases e : i = T.length
    · rw [if_pos e, e, Nat.sub_self]; rfl
    · rw [if_neg e, List.getElem?_eq_none (by show 1 ≤ i - T.length; omega), List.getElem?_eq_none (by omega)]
set_option maxHeartbeats 1000000 in
theorem dq_flush {Q : dw_S → Prop} {buf : Nat → Nat} {len : Nat} (A : dq_A1 Y bf 20 8) (J : pu_IC (dw_s Y) w h nb nc a cn hist len buf err) (hl : len + 20 ≤ 600) (hn : 1000 < n) (hQ : ∀ Y', dq_wr bf Y Y' → dw_i Y' bf 0 = dw_i Y bf 0 → (∀ m, m < 5 → dw_i Y' bf (1 + m) = 0) → pu_IC (dw_s Y') w h nb nc a cn hist (len + 20) (fun i => if i < len then buf i else pu_byt (dw_i Y bf (1 + (i - len) / 4)) ((i - len) % 4)) err → Q Y') : dw_P_L_flush n bf Y Q := by
  have hok : ∀ (x : Int32) (m : Nat), x = Int32.ofNat m → m < 8 → dw_is Y bf 20 ∧ tw_ok x (dw_l Y bf) = true := fun x m e hm => by rw [e]; exact dq_A1_ok A hm (by decide)
  obtain ⟨⟨rv, s⟩, er, hr⟩ := pu_capp (n := n) J hn (dw_i Y bf 1) (dw_i Y bf 2) (dw_i Y bf 3) (dw_i Y bf 4) (dw_i Y bf 5)
  rw [if_pos hl] at hr
  obtain ⟨-, J', -⟩ := hr
  dsimp only [] at J'
  unfold dw_P_L_flush
  refine dq_ck (hok _ 1 rfl (by decide)) (dq_ck (hok _ 2 rfl (by decide)) (dq_ck (hok _ 3 rfl (by decide)) (dq_ck (hok _ 4 rfl (by decide)) (dq_ck (hok _ 5 rfl (by decide)) (dq_bd er (dq_lt ?_))))))
  dsimp only []
  have J2 : pu_IC s w h nb nc a cn hist (len + 20) (fun i => if i < len then buf i else pu_byt (dw_i Y bf (1 + (i - len) / 4)) ((i - len) % 4)) err := by
    refine pu_IC_buf J' pu_fr_refl J'.2.2.2.2.1.1 (by omega) (fun i hi => ?_)
    obtain ⟨y1, y2⟩ := J'.2.2.2.2.1.2.2 i hi
    have e : pu_app (pu_wd (dw_i Y bf 1) (dw_i Y bf 2) (dw_i Y bf 3) (dw_i Y bf 4) (dw_i Y bf 5)) len buf i = if i < len then buf i else pu_byt (dw_i Y bf (1 + (i - len) / 4)) ((i - len) % 4) := by
      unfold pu_app
      by_cases hi2 : i < len
      · rw [if_pos hi2, if_pos hi2]
      · rw [if_neg hi2, if_neg hi2]
        have hd : (i - len) / 4 = 0 ∨ (i - len) / 4 = 1 ∨ (i - len) / 4 = 2 ∨ (i - len) / 4 = 3 ∨ (i - len) / 4 = 4 := by omega
        rcases hd with e | e | e | e | e <;> rw [e] <;> rfl
    rw [← e]
    exact ⟨y1, y2⟩
  refine dq_for 5 (fun i v => v.1 = Int32.ofNat (1 + i) ∧ dq_wr bf Y v.2 ∧ dw_s v.2 = s ∧ dw_i v.2 bf 0 = dw_i Y bf 0 ∧ ∀ m, m < i → dw_i v.2 bf (1 + m) = 0) (fun k i v hi hv hk => ?_) (fun k v hv => ?_) (by omega) ⟨rfl, (show dq_wr bf Y (dw_cs Y s) from dq_wr_refl), rfl, rfl, fun m hm => absurd hm (Nat.not_lt_zero _)⟩
  all_goals
    obtain ⟨v1, Yv⟩ := v
    obtain ⟨hv1, Fv, hs, h0, hm⟩ := hv
    dsimp only [] at hv1 Fv hs h0 hm
    dsimp only []
    subst hv1
  · have Av : dq_A1 Yv bf 20 8 := (dq_A1_fr Fv A : dq_A1 (dw_cs Yv (dw_s Y)) bf 20 8)
    have e6 : (6 : Int32) = Int32.ofNat 6 := rfl
    rw [e6, pu_n (by omega)]
    refine dq_iff (by rw [pu_le (by omega) (by omega)]; omega) (dq_ck (dq_A1_ok Av (by omega) (by decide)) (dq_lt (dq_lt (hk _ ⟨pu_add (1 + i) 1, ?_, hs, ?_, fun m hm' => ?_⟩))))
    · exact (dq_fr_pi Fv (fun _ => rfl) : dq_fr (fun k _ => k = bf) dq_no Y (dw_pi (dw_cs Yv (dw_s Y)) bf (1 + i) 0))
    · dsimp only []
      rw [dq_i_pi_j (by omega)]; exact h0
    · dsimp only []
      by_cases e : m = i
      · rw [e, dq_i_pi_s]
      · rw [dq_i_pi_j (by omega)]; exact hm m (by omega)
  · exact dq_ift (by decide) (hQ _ Fv h0 hm (by rw [hs]; exact J2))
set_option maxHeartbeats 1000000 in
theorem dq_put {Q : dw_S → Prop} {c : Nat} (X : dq_TX bf w h nb nc a cn hist err T Y) (hc : c < 256) (hL : T.length < 570) (hn : 1000 < n) (hQ : ∀ Y', dq_wr bf Y Y' → dq_TX bf w h nb nc a cn hist err (T ++ [c]) Y' → Q Y') : dw_P_L_put n bf (Int32.ofNat c) Y Q := by
  obtain ⟨A, h0, hT, ⟨buf, J, hb⟩, hw⟩ := X
  have e20 : (20 : Int32) = Int32.ofNat 20 := rfl
  have e4 : (4 : Int32) = Int32.ofNat 4 := rfl
  have e24 : (24 : Int32) = Int32.ofNat 24 := rfl
  have e8 : (8 : Int32) = Int32.ofNat 8 := rfl
  have e1 : (1 : Int32) = Int32.ofNat 1 := rfl
  have c0 : Int32.toNatClampNeg (0 : Int32) = 0 := rfl
  have ok0 : dw_is Y bf 20 ∧ tw_ok (0 : Int32) (dw_l Y bf) = true := dq_A1_ok (m := 0) A (by omega) (by decide)
  have hm5 : T.length % 20 / 4 < 5 := by omega
  have hx : (1 : Int32) + ((Int32.ofNat T.length - Int32.ofNat T.length / (20 : Int32) * (20 : Int32)) / (4 : Int32)) = Int32.ofNat (1 + T.length % 20 / 4) := by
    rw [e20, e4, pu_rem (by omega) (by omega), pu_div (by omega) (by omega), e1, pu_add]
  have hs : (24 : Int32) - ((8 : Int32) * (Int32.ofNat T.length - Int32.ofNat T.length / (4 : Int32) * (4 : Int32))) = Int32.ofNat (24 - 8 * (T.length % 4)) := by
    rw [e4, pu_rem (by omega) (by omega), e8, pu_mul, e24, pu_sub (by omega)]
  have ok1 : dw_is Y bf 20 ∧ tw_ok (Int32.ofNat (1 + T.length % 20 / 4)) (dw_l Y bf) = true := dq_A1_ok A (by omega) (by decide)
  unfold dw_P_L_put
  simp only [c0, h0, hx, hs, pu_n (show 1 + T.length % 20 / 4 < 2147483648 by omega)]
  refine dq_ck ok0 (dq_ck ok1 (dq_ck ok0 (dq_ck ok1 (dq_lt ?_))))
  generalize hYa : dw_pi Y bf (1 + T.length % 20 / 4) (dw_i Y bf (1 + T.length % 20 / 4) ||| Int32.ofNat c <<< (Int32.ofNat (24 - 8 * (T.length % 4)) &&& 31)) = Ya
  have Aa : dq_A1 Ya bf 20 8 := by rw [← hYa]; exact A
  have ha0 : dw_i Ya bf 0 = Int32.ofNat T.length := by rw [← hYa, dq_i_pi_j (by omega)]; exact h0
  have okA : dw_is Ya bf 20 ∧ tw_ok (0 : Int32) (dw_l Ya bf) = true := dq_A1_ok (m := 0) Aa (by omega) (by decide)
  have hwa : ∀ m, m < 5 → ∀ j, j < 4 → pu_byt (dw_i Ya bf (1 + m)) j = (T ++ [c]).getD (20 * (T.length / 20) + 4 * m + j) 0 := by
    intro m hm j hj
    rw [dq_getD_snoc, ← hYa]
    by_cases e : m = T.length % 20 / 4
    · subst e
      rw [dq_i_pi_s, dq_byt_or, hw _ hm j hj, dq_byt_shl hc (by omega) hj]
      by_cases ej : j = T.length % 4
      · rw [if_pos ej, if_pos (by omega), dq_getD_big (by omega), Nat.zero_or]
      · rw [if_neg ej, if_neg (by omega), Nat.or_zero]
    · rw [dq_i_pi_j (by omega), hw m hm j hj, if_neg (by omega)]
  have Fa : dq_wr bf Y Ya := by rw [← hYa]; exact (dq_fr_pi dq_fr_refl (fun _ => rfl) : dq_fr (fun k _ => k = bf) dq_no Y (dw_pi Y bf (1 + T.length % 20 / 4) _))
  have hsa : dw_s Ya = dw_s Y := by rw [← hYa]; rfl
  refine dq_ck okA (dq_ck okA (dq_lt ?_))
  rw [ha0, show Int32.ofNat T.length + (1 : Int32) = Int32.ofNat (T.length + 1) from pu_add _ 1]
  have Ab : dq_A1 (dw_pi Ya bf 0 (Int32.ofNat (T.length + 1))) bf 20 8 := Aa
  have hb0 : dw_i (dw_pi Ya bf 0 (Int32.ofNat (T.length + 1))) bf 0 = Int32.ofNat (T.length + 1) := dq_i_pi_s
  have hwb : ∀ m, m < 5 → ∀ j, j < 4 → pu_byt (dw_i (dw_pi Ya bf 0 (Int32.ofNat (T.length + 1))) bf (1 + m)) j = (T ++ [c]).getD (20 * (T.length / 20) + 4 * m + j) 0 := fun m hm j hj => by rw [dq_i_pi_j (by omega)]; exact hwa m hm j hj
  have Fb : dq_wr bf Y (dw_pi Ya bf 0 (Int32.ofNat (T.length + 1))) := (dq_fr_pi Fa (fun _ => rfl) : dq_fr (fun k _ => k = bf) dq_no Y (dw_pi (dw_cs Ya (dw_s Y)) bf 0 _))
  have hsb : dw_s (dw_pi Ya bf 0 (Int32.ofNat (T.length + 1))) = dw_s Y := hsa
  have okB : dw_is (dw_pi Ya bf 0 (Int32.ofNat (T.length + 1))) bf 20 ∧ tw_ok (0 : Int32) (dw_l (dw_pi Ya bf 0 (Int32.ofNat (T.length + 1))) bf) = true := okA
  generalize dw_pi Ya bf 0 (Int32.ofNat (T.length + 1)) = Yb at *
  have hTc : ∀ i, (T ++ [c]).getD i 0 < 256 := fun i => by
    rw [dq_getD_snoc]
    split
    · exact hc
    · exact hT i
  have hlen : (T ++ [c]).length = T.length + 1 := by rw [List.length_append]; rfl
  refine dq_ck okB ?_
  rw [hb0, e20, pu_rem (by omega) (by omega)]
  refine dq_jn (fun Y' => dq_wr bf Y Y' ∧ dq_TX bf w h nb nc a cn hist err (T ++ [c]) Y') (fun Y' z => hQ Y' z.1 z.2) (fun j hj => dq_if (fun z => hj _ ⟨Fb, ?_⟩) (fun z => ?_))
  · have hz : (T.length + 1) % 20 ≠ 0 := fun e => z (by rw [e]; rfl)
    refine ⟨Ab, by rw [hb0, hlen], hTc, ⟨buf, ?_, fun i hi => ?_⟩, fun m hm j hj => ?_⟩
    · rw [hsb, hlen, show (T.length + 1) / 20 = T.length / 20 by omega]; exact J
    · rw [hlen, show (T.length + 1) / 20 = T.length / 20 by omega] at hi
      rw [dq_getD_snoc, if_neg (by omega)]
      exact hb i hi
    · rw [hlen, show (T.length + 1) / 20 = T.length / 20 by omega]
      exact hwb m hm j hj
  · have hz : (T.length + 1) % 20 = 0 := by
      have := (pu_eq (b := 0) (by omega) (by omega)).mp (Classical.not_not.mp z)
      exact this
    have hd : (T.length + 1) / 20 = T.length / 20 + 1 := by omega
    refine dq_flush Ab (by rw [hsb]; exact J) (by omega) hn (fun Y' F' g0 gm J' => hj _ ⟨dq_wr_tr Fb F', ?_⟩)
    refine ⟨(dq_A1_fr F' Ab : dq_A1 (dw_cs Y' (dw_s Yb)) bf 20 8), by rw [g0, hb0, hlen], hTc, ⟨_, (by rw [hlen, hd, Nat.mul_succ]; exact J'), fun i hi => ?_⟩, fun m hm j hj => ?_⟩
    · rw [hlen, hd] at hi
      by_cases e : i < 20 * (T.length / 20)
      · rw [if_pos e, dq_getD_snoc, if_neg (by omega)]
        exact hb i e
      · rw [if_neg e, hwb _ (by omega) _ (by omega)]
        congr 1
        omega
    · rw [gm m hm, dq_byt0, dq_getD_big (by rw [hlen, hd]; omega)]
end DQE
