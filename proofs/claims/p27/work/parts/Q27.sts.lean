/-! the law's clue: its starts are written -/
section DQS
variable {Y Y0 Y' Y'' : dw_S} {r n bf mk fst w h nb nc cn : Nat} {a : Nat → Int32} {hist : Nat → Nat → Int32} {err : Int32} {T : List Nat}
/-- the buffer, the random numbers and what is new are written, the walk has other bytes -/
def dq_wx (bf r : Nat) (Y Y' : dw_S) : Prop := dq_fr (fun k _ => k = bf ∨ k = r) dq_no Y (dw_cs Y' (dw_s Y))
theorem dq_wx_refl : dq_wx bf r Y Y := dq_fr_refl
theorem dq_wx_fr {Si Sr : Nat → Nat → Prop} (F : dq_wx bf r Y Y') (G : dq_fr Si Sr Y' Y'') (hi : ∀ k j, k < dw_n Y → Si k j → k = bf ∨ k = r) (hr : ∀ k j, k < dw_n Y → ¬ Sr k j) : dq_wx bf r Y Y'' := dq_fr_trans F (⟨rfl, G.2.1, G.2.2.1, G.2.2.2.1, G.2.2.2.2⟩ : dq_fr Si Sr (dw_cs Y' (dw_s Y)) (dw_cs Y'' (dw_s Y))) hi (fun k j hk z => absurd z (hr k j hk))
theorem dq_wx_wr (F : dq_wx bf r Y Y') (G : dq_wr bf Y' Y'') : dq_wx bf r Y Y'' := dq_fr_trans F (⟨rfl, G.2.1, G.2.2.1, G.2.2.2.1, G.2.2.2.2⟩ : dq_fr (fun k _ => k = bf) dq_no (dw_cs Y' (dw_s Y)) (dw_cs Y'' (dw_s Y))) (fun _ _ _ z => Or.inl z) (fun _ _ _ z => z)
theorem dq_wx_tr (F : dq_wx bf r Y Y') (G : dq_wx bf r Y' Y'') : dq_wx bf r Y Y'' := dq_fr_trans F (⟨rfl, G.2.1, G.2.2.1, G.2.2.2.1, G.2.2.2.2⟩ : dq_fr (fun k _ => k = bf ∨ k = r) dq_no (dw_cs Y' (dw_s Y)) (dw_cs Y'' (dw_s Y))) (fun _ _ _ z => z) (fun _ _ _ z => z)
theorem dq_wr_wx (G : dq_wr bf Y' Y'') : dq_wx bf r Y' Y'' := dq_wx_wr dq_wx_refl G
theorem dq_wx_n (F : dq_wx bf r Y Y') : dw_n Y ≤ dw_n Y' := F.2.1
theorem dq_is_wx {k kd : Nat} (F : dq_wx bf r Y Y') (h : dw_is Y k kd) : dw_is Y' k kd := (dq_is_fr F h : dw_is (dw_cs Y' (dw_s Y)) k kd)
theorem dq_A1_wx {k kd len : Nat} (F : dq_wx bf r Y Y') (h : dq_A1 Y k kd len) : dq_A1 Y' k kd len := (dq_A1_fr F h : dq_A1 (dw_cs Y' (dw_s Y)) k kd len)
theorem dq_i_wx {k j : Nat} (F : dq_wx bf r Y Y') (h : k < dw_n Y) (h1 : k ≠ bf) (h2 : k ≠ r) : dw_i Y' k j = dw_i Y k j := F.2.2.2.1 k j h (fun z => z.elim h1 h2)
theorem dq_r_wx {k j : Nat} (F : dq_wx bf r Y Y') (h : k < dw_n Y) : dw_r Y' k j = dw_r Y k j := F.2.2.2.2 k j h (fun z => z)
/-- a clue with its starts -/
def dq_C1 (Y : dw_S) (q s i : Nat) (V : Nat → Int32) : Prop := dw_is Y q 12 ∧ dw_r Y q 0 = some s ∧ dq_A1 Y s 20 i ∧ (∀ j, j < i → dw_i Y s j = V j) ∧ dw_i Y q 2 = 1
theorem dq_C1_wx {q s i : Nat} {V : Nat → Int32} (F : dq_wx bf r Y Y') (h1 : q ≠ bf ∧ q ≠ r) (h2 : s ≠ bf ∧ s ≠ r) (C : dq_C1 Y q s i V) : dq_C1 Y' q s i V := by
  obtain ⟨c1, c2, c3, c4, c5⟩ := C
  refine ⟨dq_is_wx F c1, ?_, dq_A1_wx F c3, fun j hj => ?_, ?_⟩
  · rw [dq_r_wx F c1.1]; exact c2
  · rw [dq_i_wx F c3.1.1 h2.1 h2.2]; exact c4 j hj
  · rw [dq_i_wx F c1.1 h1.1 h1.2]; exact c5
/-- the starts' text -/
def dq_stX (fst mk : Nat) : Nat → List Nat
  | 0 => []
  | i + 1 => dq_stX fst mk i ++ ((if i = 0 then [] else dq_wd 23) ++ [97 + (fst + i) % mk])
theorem dq_chr : ∀ m : Fin 8, ((Int32.toUInt32 ((97 : Int32) + Int32.ofNat m.val) % 65536).toInt32) = Int32.ofNat (97 + m.val) := by decide
theorem dq_stX_len {i : Nat} (hi : i ≤ 2) : (dq_stX fst mk i).length ≤ 6 := by
  have l23 : (dq_wd 23).length = 4 := by decide +kernel
  have hc : i = 0 ∨ i = 1 ∨ i = 2 := by omega
  rcases hc with e | e | e <;> subst e
  · exact Nat.zero_le _
  · show ([] ++ ([] ++ [_])).length ≤ 6
    exact Nat.le_of_ble_eq_true rfl
  · show ((([] ++ ([] ++ [97 + (fst + 0) % mk]))) ++ (dq_wd 23 ++ [97 + (fst + 1) % mk])).length ≤ 6
    simp only [List.length_append, l23]
    exact Nat.le_of_ble_eq_true rfl
theorem dq_wr_no (F : dq_fr dq_no dq_no Y Y') : dq_wr bf Y Y' := ⟨rfl, F.2.1, F.2.2.1, fun k j hk _ => F.2.2.2.1 k j hk (fun z => z), F.2.2.2.2⟩
/-- "" and a letter, written -/
theorem dq_let1 {Q : dw_S → Prop} {m : Nat} {c1 c2 c3 c4 c5 c6 : Prop} (hm : m < 8) (h4 : 442 ≤ dw_n Y) (hbf : bf < dw_n Y) (X : dq_TX bf w h nb nc a cn hist err T Y) (hL : T.length < 500) (hn : 1000 < n) (hc : c1 ∧ c2 ∧ c3 ∧ c4 ∧ c5 ∧ c6) (hQ : ∀ Y', dq_wr bf Y Y' → dq_TX bf w h nb nc a cn hist err (T ++ [97 + m]) Y' → Q Y') : pw_ck c1 (
pw_al (dw_n Y) (fun (q102 : Nat) => pw_lt (dw_nw Y q102 17 0 (fun _ => 0) (fun _ => none)) (fun (Y103 : dw_S) =>
pw_ck c2 (
dw_P_J4_init_da8c8 q102 Y103 (fun (r104 : dw_S) =>
pw_ck (dw_is r104 q102 17 ∧ c3) (
dw_P_J4_append_15ec4 q102 24 r104 (fun (r105 : Nat × dw_S) =>
pw_ck (dw_is r105.2 r105.1 17 ∧ c4) (
dw_P_J4_append_cf468 r105.1 ((Int32.toUInt32 ((97 : Int32) + Int32.ofNat m) % 65536).toInt32) r105.2 (fun (r106 : Nat × dw_S) =>
pw_ck (dw_is r106.2 r106.1 17 ∧ c5) (
dw_P_J4_toString_0e30d r106.1 r106.2 (fun (r107 : Nat × dw_S) =>
pw_ck c6 (
dw_P_L_writed n bf r107.1 r107.2 (fun (r108 : dw_S) => Q r108))))))))))))) := by
  obtain ⟨k1, k2, k3, k4, k5, k6⟩ := hc
  refine dq_ck k1 (fun q hq => dq_lt (dq_ck k2 ?_))
  refine dq_sbinit (Y0 := Y) dq_fr_refl hq h4 (fun Y1 B1 => dq_ck ⟨B1.2.2.1, k3⟩ ?_)
  have l24 : dq_wd 24 = [] := by decide +kernel
  refine dq_sbapp (by decide) B1 (by rw [l24]; decide) (fun Y2 B2 => dq_ck ⟨B2.2.2.1, k4⟩ ?_)
  rw [l24] at B2
  rw [dq_chr ⟨m, hm⟩]
  refine dq_sbchr (by omega) B2 (by decide) (fun Y3 B3 => dq_ck ⟨B3.2.2.1, k5⟩ ?_)
  have B3 : dq_SB Y q [97 + m] Y3 := B3
  refine dq_sbstr B3 (by show 1 < 16; omega) (by show 0 < 1; omega) (fun s Y4 B4 => dq_ck k6 ?_)
  have F4 : dq_fr dq_no dq_no Y Y4 := B4.1
  refine dq_writed B4 hbf (dq_TX_fr F4 (fun _ z => z) X) (by omega) hn (fun Y5 F5 X5 => hQ Y5 ?_ X5)
  exact dq_wr_tr (dq_wr_no F4) F5
end DQS
