/-! the law's clue statement, read -/
section DQN
variable {B : Nat → Nat} {L p e e' s k x w h q : Nat} {A : Nat → Int32}
abbrev dq_Lg : Type := Nat × Nat × Nat × Nat
def dq_lgsT : List dq_Lg → List Nat
  | [] => []
  | l :: ls => dq_lgT l.1 l.2.1 l.2.2.1 l.2.2.2 ++ dq_lgsT ls
def dq_aGs (q : Nat) : List dq_Lg → (Nat → Int32) → (Nat → Int32)
  | [], A => A
  | l :: ls, A => dq_aGs q ls (pu_aG A q l.1 l.2.1 l.2.2.1 l.2.2.2)
/-- a leg that may be added -/
def dq_l1OK (q : Nat) (l : dq_Lg) (A : Nat → Int32) : Prop := l.1 < 3 ∧ l.2.2.2 < 8 ∧ l.2.2.1 < 6 ∧ (l.1 ≠ 0 → l.2.2.1 = 0) ∧ (l.1 = 0 → l.2.1 < 10) ∧ (l.1 = 1 → l.2.1 < 8 ∧ A (808 + l.2.1) ≠ -1) ∧ (l.1 = 2 → l.2.1 = 0) ∧ pu_nl A q ≠ 8
def dq_lgOK (q : Nat) : List dq_Lg → (Nat → Int32) → Prop
  | [], _ => True
  | l :: ls, A => dq_l1OK q l A ∧ dq_lgOK q ls (pu_aG A q l.1 l.2.1 l.2.2.1 l.2.2.2)
theorem dq_isW59 {y : Nat} (h : e < L) (hB : B e = 59) : pu_isW B L e y = false := by
  cases hp : pu_isW B L e y
  · rfl
  · have t := (pu_isW_iff.mp hp).1
    unfold pu_tk at t
    rw [if_pos h, hB] at t
    exact absurd t (by decide)
theorem dq_rdLegs : ∀ (ls : List dq_Lg) (f e : Nat) (A : Nat → Int32), ls.length < f → dq_at B e (dq_lgsT ls ++ [59]) → e + (dq_lgsT ls).length < L → dq_lgOK q ls A → dq_okE B L e ∧ pu_isW B L (pu_sk B L e) 8 = false ∧ pu_isW B L (pu_sk B L e) 12 = false ∧ pu_gs B L q f (none, pu_sk B L e, A) = (none, e + (dq_lgsT ls).length, dq_aGs q ls A)
  | [], f, e, A, _, hat, hL, _ => by
    have hL : e < L := hL
    have h59 : B (e + 0) = 59 := dq_at_b (i := 0) hat (by show 0 < 1; omega) rfl
    have h59 : B e = 59 := h59
    have sk : pu_sk B L e = e := dq_sk0 (fun _ => by rw [h59]; decide)
    rw [sk]
    refine ⟨⟨hL, Or.inl h59⟩, dq_isW59 hL h59, dq_isW59 hL h59, ?_⟩
    rw [pu_gs_e (fun z => by
      have z2 := z.2
      unfold pu_la at z2
      rw [dq_isW59 (y := 9) hL h59, dq_isW59 (y := 10) hL h59, dq_isW59 (y := 11) hL h59] at z2
      exact absurd z2 (by decide))]
    rfl
  | l :: ls, f, e, A, hf, hat, hL, hs => by
    cases f with
    | zero => exact absurd hf (Nat.not_lt_zero _)
    | succ f =>
    obtain ⟨h1, h2⟩ := hs
    have hT : dq_lgsT (l :: ls) = dq_lgT l.1 l.2.1 l.2.2.1 l.2.2.2 ++ dq_lgsT ls := rfl
    rw [hT] at hat hL ⊢
    rw [List.append_assoc] at hat
    rw [List.length_append] at hL ⊢
    have a1 := dq_at_l hat
    have a2 := dq_at_r hat
    have hf2 : ls.length < f := Nat.lt_of_succ_lt_succ hf
    obtain ⟨i1, i2, i3, i4⟩ := dq_rdLegs ls f (e + (dq_lgT l.1 l.2.1 l.2.2.1 l.2.2.2).length) (pu_aG A q l.1 l.2.1 l.2.2.1 l.2.2.2) hf2 a2 (by omega) h2
    obtain ⟨c1, c2, c3, c4, c5, c6, c7, c8⟩ := h1
    obtain ⟨r1, r2, r3, r4, r5, r6, r7⟩ := dq_rdLeg (B := B) (L := L) c1 c2 c3 c4 c5 c6 c7 a1 rfl i1 i3 c8
    refine ⟨r1, r3, r4, ?_⟩
    rw [pu_gs_s ⟨rfl, r2⟩]
    show pu_gs B L q f (pu_eG B L A q none (pu_sk B L e), pu_pG B L (pu_sk B L e), pu_qG B L A q (pu_sk B L e)) = _
    rw [r5, r6, r7, i4, Nat.add_assoc]
    rfl
/-- the text of a clue -/
def dq_clT (m : Nat) (ms : List Nat) (ls : List dq_Lg) : List Nat := dq_wd 22 ++ ([97 + m] ++ (dq_orT ms ++ (dq_lgsT ls ++ [59])))
def dq_clA (q m : Nat) (ms : List Nat) (ls : List dq_Lg) (A : Nat → Int32) : Nat → Int32 := pu_aC (dq_aGs q ls (dq_aZs q ms (dq_aZ A q m))) q
theorem dq_rdClue {m : Nat} {ms : List Nat} {ls : List dq_Lg} (hat : dq_at B p (dq_clT m ms ls)) (hL : p + (dq_clT m ms ls).length ≤ L) (hn : p + (dq_clT m ms ls).length < L → B (p + (dq_clT m ms ls).length) ≠ 32) (h4 : pu_v A 3 = q) (hq : q < 4) (hst : dq_stOK q (m :: ms) A) (hlg : dq_lgOK q ls (dq_aZs q ms (dq_aZ A q m))) (hms : ms.length < 600) (hls : ls.length < L) : pu_stm B L w h p A = (none, p + (dq_clT m ms ls).length, dq_clA q m ms ls A) := by
  have e22 : dq_wd 22 = dq_wd 4 ++ [32] := by decide +kernel
  have l22 : (dq_wd 22).length = 5 := by decide +kernel
  have l4 : (dq_wd 4).length = 4 := by decide +kernel
  have hlen : (dq_clT m ms ls).length = 5 + (1 + ((dq_orT ms).length + ((dq_lgsT ls).length + 1))) := by
    unfold dq_clT
    rw [List.length_append, List.length_append, List.length_append, List.length_append, l22]
    rfl
  rw [hlen] at hL hn ⊢
  have horl : ms.length ≤ (dq_orT ms).length := by
    clear hst hlg hms hat hlen hL hn
    induction ms with
    | nil => exact Nat.le_refl _
    | cons a as ih =>
      have hT : dq_orT (a :: as) = dq_wd 23 ++ [97 + a] ++ dq_orT as := rfl
      rw [hT, List.length_append, List.length_append]
      have : [97 + a].length = 1 := rfl
      have : (a :: as).length = as.length + 1 := rfl
      omega
  unfold dq_clT at hat
  have a0 := dq_at_l hat
  have a1 := dq_at_r hat
  rw [l22] at a1
  rw [e22] at a0
  have a2 := dq_at_l a0
  have a3 := dq_at_r a0
  rw [l4] at a3
  have a4 := dq_at_l a1
  have a5 := dq_at_r a1
  have a5 : dq_at B (p + 5 + 1) (dq_orT ms ++ (dq_lgsT ls ++ [59])) := a5
  have a6 := dq_at_l a5
  have a7 := dq_at_r a5
  have a8 := dq_at_r a7
  have c4 : B (p + 4 + 0) = 32 := dq_at_b (i := 0) a3 (by show 0 < 1; omega) rfl
  have c5 : B (p + 5 + 0) = 97 + m := dq_at_b (i := 0) a4 (by show 0 < 1; omega) rfl
  have c9 : B (p + 5 + 1 + (dq_orT ms).length + (dq_lgsT ls).length + 0) = 59 := dq_at_b (i := 0) a8 (by show 0 < 1; omega) rfl
  obtain ⟨n0, i0⟩ := dq_word (L := L) (x := 4) (by decide) l4 a2 (by omega) c4 (by show B (p + 5 + 0) ≠ 32; rw [c5]; omega)
  have n0 : pu_nx B L p = p + 5 := n0
  -- the legs
  obtain ⟨g1, g2, g3, g4⟩ := dq_rdLegs (B := B) (L := L) (q := q) ls (L + 1) (p + 5 + 1 + (dq_orT ms).length) (dq_aZs q ms (dq_aZ A q m)) (by omega) a7 (by omega) hlg
  -- the starts
  have ok1 : dq_okE B L (p + 5 + 1) := by
    cases ms with
    | nil => exact g1
    | cons m2 ms2 =>
      have hT2 : dq_orT (m2 :: ms2) = dq_wd 23 ++ [97 + m2] ++ dq_orT ms2 := rfl
      have e23 : dq_wd 23 = [32] ++ (dq_wd 8 ++ [32]) := by decide +kernel
      have l8 : (dq_wd 8).length = 2 := by decide +kernel
      rw [hT2] at a6
      have b1 := dq_at_l (dq_at_l a6)
      rw [e23] at b1
      have d0 : B (p + 5 + 1 + 0) = 32 := dq_at_b (i := 0) b1 (by show 0 < _ + 1; omega) rfl
      have b4 : dq_at B (p + 5 + 1 + 1) (dq_wd 8 ++ [32]) := dq_at_r (P := [32]) b1
      have : 5 ≤ (dq_orT (m2 :: ms2)).length := by
        rw [hT2, List.length_append, List.length_append]
        have : (dq_wd 23).length = 4 := by decide +kernel
        have : [97 + m2].length = 1 := rfl
        omega
      exact (dq_sp (L := L) d0 (by omega) (dq_wd0 (by decide) (dq_at_l b4))).1
  obtain ⟨s1, s2, s3, s4⟩ := hst
  have z1 := dq_rdStart (L := L) (p := p + 5) (q := q) s1 c5 ok1 s2 s3
  have z2 := dq_rdOrs (L := L) (q := q) ms (L + 1) (p + 5 + 1) (dq_aZ A q m) (by omega) a6 g1 g2 s4
  have x1 : pu_x1 B L A p = (none, pu_sk B L (p + 5 + 1), dq_aZ A q m) := by
    unfold pu_x1
    rw [h4, n0, pu_fs_y (show q ≠ 4 by omega)]
    exact z1
  have x3 : pu_x3 B L A p = (none, p + 5 + 1 + (dq_orT ms).length + (dq_lgsT ls).length, dq_aGs q ls (dq_aZs q ms (dq_aZ A q m))) := by
    unfold pu_x3
    rw [x1, h4, z2]
    exact g4
  obtain ⟨m1, m2⟩ := dq_semi (L := L) (p := p + 5 + 1 + (dq_orT ms).length + (dq_lgsT ls).length) c9 (by omega) (fun z => by
    have := hn (by omega)
    rw [show p + 5 + 1 + (dq_orT ms).length + (dq_lgsT ls).length + 1 = p + (5 + (1 + ((dq_orT ms).length + ((dq_lgsT ls).length + 1)))) by omega]
    exact this)
  unfold pu_stm
  rw [if_neg (by rw [i0 0 (by decide)]; decide +kernel), if_neg (by rw [i0 1 (by decide)]; decide +kernel), if_neg (by rw [i0 2 (by decide)]; decide +kernel), if_neg (by rw [i0 3 (by decide)]; decide +kernel), if_pos (show pu_isW B L p 4 = true by rw [i0 4 (by decide)]; decide +kernel)]
  unfold pu_xC
  rw [x3, m2, h4]
  show (pu_fs none (pu_semi B L (p + 5 + 1 + (dq_orT ms).length + (dq_lgsT ls).length) = true) (-2) _, _, _) = _
  rw [pu_fs_y m1, show p + 5 + 1 + (dq_orT ms).length + (dq_lgsT ls).length + 1 = p + (5 + (1 + ((dq_orT ms).length + ((dq_lgsT ls).length + 1)))) by omega]
  rfl
end DQN
