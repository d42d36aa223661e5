/-! the law's clues, read -/
section DQM
variable {B : Nat → Nat} {L p e e' s k x w h q : Nat} {A : Nat → Int32}
/-- a token ends at e, one more follows behind a space, or a semicolon stands there -/
def dq_okE (B : Nat → Nat) (L e : Nat) : Prop := e < L ∧ (B e = 59 ∨ (B e = 32 ∧ e + 1 < L ∧ B (e + 1) ≠ 32))
theorem dq_tokE {W : List Nat} (hW : 0 < W.length) (hat : dq_at B p W) (hk : ∀ i, i < W.length → pu_kdb (W.getD i 0) = k) (hk3 : k = 1 ∨ k = 2) (ok : dq_okE B L (p + W.length)) : dq_tok B L p k W (pu_sk B L (p + W.length)) := by
  obtain ⟨o1, o2⟩ := ok
  have hc : pu_kdb (B (p + W.length)) ≠ k := by
    rcases o2 with z | ⟨z, -⟩ <;> rw [z] <;> rcases hk3 with y | y <;> rw [y] <;> decide
  obtain ⟨t1, t2⟩ := dq_te (L := L) hW hat o1 hk (by rcases hk3 with y | y <;> rw [y] <;> decide) hc
  refine ⟨hat, hW, o1, t1, t2, ?_⟩
  unfold pu_nx
  rw [t2]
theorem dq_wordE {x l : Nat} (hx : x < 21) (hl : (dq_wd x).length = l) (h : dq_at B p (dq_wd x)) (ok : dq_okE B L (p + l)) : pu_nx B L p = pu_sk B L (p + l) ∧ ∀ y, y < 33 → pu_isW B L p y = decide (dq_wd x = dq_wd y) := by
  subst hl
  have t := dq_tokE (dq_wdL ⟨x, hx⟩).2 h (fun i hi => dq_wdK hx hi) (Or.inl rfl) ok
  exact ⟨t.2.2.2.2.2, fun y hy => dq_isW t hy (fun i => by have := dq_wd_lt (i := i) (show x < 33 by omega); omega)⟩
theorem dq_one {c : Nat} (h : B p = c) : dq_at B p [c] := fun i hi => by
  have hi : i < 1 := hi
  have e : i = 0 := by omega
  subst e
  exact h
theorem dq_markE {m : Nat} (hm : m < 8) (h : B p = 97 + m) (ok : dq_okE B L (p + 1)) : pu_isM B L p ∧ pu_nx B L p = pu_sk B L (p + 1) := by
  have t := dq_tokE (W := [97 + m]) (k := 1) (by show 0 < 1; omega) (dq_one h) (fun i hi => by
    have hi : i < 1 := hi
    have e : i = 0 := by omega
    subst e
    exact pu_let.mpr ⟨by show 97 ≤ 97 + m; omega, by show 97 + m ≤ 122; omega⟩) (Or.inl rfl) ok
  obtain ⟨-, -, -, t1, t2, t3⟩ := t
  exact ⟨⟨t1, by rw [t2]; show p + 1 - p = 1; omega, by rw [h]; omega⟩, t3⟩
theorem dq_digE {d : Nat} (hd : d < 10) (h : B p = 48 + d) (ok : dq_okE B L (p + 1)) : (pu_tk B L p = 2 ∧ pu_num B L p = d) ∧ pu_nx B L p = pu_sk B L (p + 1) := by
  have t := dq_tokE (W := [48 + d]) (k := 2) (by show 0 < 1; omega) (dq_one h) (fun i hi => by
    have hi : i < 1 := hi
    have e : i = 0 := by omega
    subst e
    exact dq_kdig hd) (Or.inr rfl) ok
  exact ⟨dq_dig hd t, t.2.2.2.2.2⟩
theorem dq_sp (h1 : B e = 32) (hL : e + 1 < L) (hn : B (e + 1) ≠ 32) : dq_okE B L e ∧ pu_sk B L e = e + 1 := ⟨⟨by omega, Or.inr ⟨h1, hL, hn⟩⟩, dq_sk1 (by omega) h1 (fun _ => hn)⟩
/-- a start -/
def dq_aZ (A : Nat → Int32) (q m : Nat) : Nat → Int32 := upd (upd A (pu_cl q + 3 + pu_ns A q) (Int32.ofNat m)) (pu_cl q + 1) (Int32.ofNat (pu_ns A q + 1))
theorem dq_rdStart {m : Nat} (hm : m < 8) (h : B p = 97 + m) (ok : dq_okE B L (p + 1)) (h8 : A (808 + m) ≠ -1) (hd : ∀ k, k < pu_ns A q → pu_v A (pu_cl q + 3 + k) ≠ m) : pu_z1s B L q none p A = (none, pu_sk B L (p + 1), dq_aZ A q m) := by
  obtain ⟨t1, t2⟩ := dq_markE hm h ok
  have hb : B p - 97 = m := by rw [h]; omega
  unfold pu_z1s pu_eZ pu_eK pu_qZ
  rw [t2, hb, pu_fs_y t1, pu_fs_y h8, pu_fs_y hd]
  rfl
/-- further starts -/
def dq_orT : List Nat → List Nat
  | [] => []
  | m :: ms => dq_wd 23 ++ [97 + m] ++ dq_orT ms
def dq_aZs (q : Nat) : List Nat → (Nat → Int32) → (Nat → Int32)
  | [], A => A
  | m :: ms, A => dq_aZs q ms (dq_aZ A q m)
/-- starts that may be added -/
def dq_stOK (q : Nat) : List Nat → (Nat → Int32) → Prop
  | [], _ => True
  | m :: ms, A => m < 8 ∧ A (808 + m) ≠ -1 ∧ (∀ k, k < pu_ns A q → pu_v A (pu_cl q + 3 + k) ≠ m) ∧ dq_stOK q ms (dq_aZ A q m)
theorem dq_rdOrs : ∀ (ms : List Nat) (f e : Nat) (A : Nat → Int32), ms.length < f → dq_at B e (dq_orT ms) → dq_okE B L (e + (dq_orT ms).length) → pu_isW B L (pu_sk B L (e + (dq_orT ms).length)) 8 = false → dq_stOK q ms A → pu_zs B L q f (none, pu_sk B L e, A) = (none, pu_sk B L (e + (dq_orT ms).length), dq_aZs q ms A)
  | [], f, e, A, _, _, _, hno, _ => by
    have hl : e + (dq_orT []).length = e := rfl
    rw [hl] at hno ⊢
    rw [pu_zs_e (fun z => by rw [show (none, pu_sk B L e, A).2.1 = pu_sk B L e from rfl, hno] at z; exact absurd z.2 (by decide))]
    rfl
  | m :: ms, f, e, A, hf, hat, ok, hno, hs => by
    cases f with
    | zero => exact absurd hf (Nat.not_lt_zero _)
    | succ f =>
    obtain ⟨h1, h2, h3, h4⟩ := hs
    have e23 : dq_wd 23 = [32] ++ (dq_wd 8 ++ [32]) := by decide +kernel
    have l23 : (dq_wd 23).length = 4 := by decide +kernel
    have l8 : (dq_wd 8).length = 2 := by decide +kernel
    have hT : dq_orT (m :: ms) = dq_wd 23 ++ [97 + m] ++ dq_orT ms := rfl
    have hlen : (dq_orT (m :: ms)).length = 5 + (dq_orT ms).length := by
      rw [hT, List.length_append, List.length_append, l23]
      rfl
    rw [hT] at hat
    have a1 := dq_at_l (dq_at_l hat)
    have a2 := dq_at_r (dq_at_l hat)
    have a3 := dq_at_r hat
    rw [l23] at a2
    rw [List.length_append, l23] at a3
    have a3 : dq_at B (e + 5) (dq_orT ms) := a3
    rw [e23] at a1
    have c0 : B (e + 0) = 32 := dq_at_b (i := 0) a1 (by show 0 < _ + 1; omega) rfl
    have a4 : dq_at B (e + 1) (dq_wd 8 ++ [32]) := dq_at_r (P := [32]) a1
    have a5 := dq_at_l a4
    have a6 := dq_at_r a4
    rw [l8] at a6
    have c3 : B (e + 1 + 2 + 0) = 32 := dq_at_b (i := 0) a6 (by show 0 < 1; omega) rfl
    have c4 : B (e + 4) = 97 + m := dq_at_b (i := 0) a2 (by show 0 < 1; omega) rfl
    have c1 : B (e + 1) ≠ 32 := by
      have e := dq_at_b (i := 0) a5 (by rw [l8]; omega) rfl
      have : (dq_wd 8).getD 0 0 ≠ 32 := by decide +kernel
      rw [Nat.add_zero] at e
      rw [e]; exact this
    rw [hlen] at ok hno ⊢
    have hLe := ok.1
    obtain ⟨o1, o2⟩ := dq_sp (L := L) c0 (by omega) c1
    obtain ⟨n1, i1⟩ := dq_word (L := L) (x := 8) (by decide) l8 a5 (by omega) c3 (by show B (e + 4) ≠ 32; rw [c4]; omega)
    have ok5 : dq_okE B L (e + 5) := by
      cases ms with
      | nil => exact ok
      | cons m2 ms2 =>
        have hT2 : dq_orT (m2 :: ms2) = dq_wd 23 ++ [97 + m2] ++ dq_orT ms2 := rfl
        have l2 : (dq_orT (m2 :: ms2)).length = 5 + (dq_orT ms2).length := by
          rw [hT2, List.length_append, List.length_append, l23]
          rfl
        rw [hT2] at a3
        have b1 := dq_at_l (dq_at_l a3)
        rw [e23] at b1
        have d0 : B (e + 5 + 0) = 32 := dq_at_b (i := 0) b1 (by show 0 < _ + 1; omega) rfl
        have b4 : dq_at B (e + 5 + 1) (dq_wd 8 ++ [32]) := dq_at_r (P := [32]) b1
        have d1 : B (e + 5 + 1) ≠ 32 := by
          have e := dq_at_b (i := 0) (dq_at_l b4) (by rw [l8]; omega) rfl
          have : (dq_wd 8).getD 0 0 ≠ 32 := by decide +kernel
          rw [Nat.add_zero] at e
          rw [e]; exact this
        exact (dq_sp (L := L) d0 (by omega) d1).1
    have hst := dq_rdStart (L := L) (p := e + 4) h1 c4 ok5 h2 h3
    have n1' : pu_nx B L (e + 1) = e + 4 := n1
    have o2 : pu_sk B L e = e + 1 := o2
    rw [o2, pu_zs_s ⟨rfl, by show pu_isW B L (e + 1) 8 = true; rw [i1 8 (by decide)]; decide +kernel⟩]
    show pu_zs B L q f (pu_z1s B L q none (pu_nx B L (e + 1)) A) = _
    rw [n1', hst]
    have ih := dq_rdOrs ms f (e + 5) (dq_aZ A q m) (by have : ms.length + 1 < f + 1 := hf; omega) a3 (by rw [Nat.add_assoc]; exact ok) (by rw [Nat.add_assoc]; exact hno) h4
    rw [show e + 4 + 1 = e + 5 from rfl, ih, Nat.add_assoc]
    rfl
/-- a leg's text -/
def dq_lgT (κ m g d : Nat) : List Nat := (if κ = 0 then dq_wd 25 ++ [32, 48 + m] else if κ = 1 then dq_wd 26 ++ [97 + m] else dq_wd 27) ++ ([32] ++ dq_wd (13 + d) ++ (if 0 < g then dq_wd 28 ++ [32, 48 + g] else []))
theorem dq_bg {d : Nat} (hd : d < 8) (iw : ∀ y, y < 33 → pu_isW B L p y = decide (dq_wd (13 + d) = dq_wd y)) : pu_bg B L p = d := by
  unfold pu_bg
  rw [iw 13 (by decide), iw 14 (by decide), iw 15 (by decide), iw 16 (by decide), iw 17 (by decide), iw 18 (by decide), iw 19 (by decide), iw 20 (by decide)]
  have key : ∀ d : Fin 8, (if decide (dq_wd (13 + d.val) = dq_wd 13) = true then 0 else (if decide (dq_wd (13 + d.val) = dq_wd 14) = true then 1 else (if decide (dq_wd (13 + d.val) = dq_wd 15) = true then 2 else (if decide (dq_wd (13 + d.val) = dq_wd 16) = true then 3 else (if decide (dq_wd (13 + d.val) = dq_wd 17) = true then 4 else (if decide (dq_wd (13 + d.val) = dq_wd 18) = true then 5 else (if decide (dq_wd (13 + d.val) = dq_wd 19) = true then 6 else (if decide (dq_wd (13 + d.val) = dq_wd 20) = true then 7 else 8)))))))) = d.val := by decide +kernel
  exact key ⟨d, hd⟩
theorem dq_bgne {d y : Nat} (hd : d < 8) (hy : y = 9 ∨ y = 10 ∨ y = 11 ∨ y = 12 ∨ y = 8) : dq_wd (13 + d) ≠ dq_wd y := by
  have key : ∀ d : Fin 8, dq_wd (13 + d.val) ≠ dq_wd 9 ∧ dq_wd (13 + d.val) ≠ dq_wd 10 ∧ dq_wd (13 + d.val) ≠ dq_wd 11 ∧ dq_wd (13 + d.val) ≠ dq_wd 12 ∧ dq_wd (13 + d.val) ≠ dq_wd 8 := by decide +kernel
  obtain ⟨k1, k2, k3, k4, k5⟩ := key ⟨d, hd⟩
  rcases hy with e | e | e | e | e <;> rw [e] <;> assumption
/-- where the tail of a leg begins: the bearing and the give -/
theorem dq_wd0 {x : Nat} (hx : x < 21) (h : dq_at B p (dq_wd x)) : B p ≠ 32 := by
  have e := dq_at_b (i := 0) h (dq_wdL ⟨x, hx⟩).2 rfl
  have k := dq_wdK hx (dq_wdL ⟨x, hx⟩).2
  rw [Nat.add_zero] at e
  intro z
  rw [← e, z] at k
  exact absurd k (by decide)
theorem dq_rdTail {d g : Nat} (hd : d < 8) (hg : g < 6) (hat : dq_at B p (dq_wd (13 + d) ++ (if 0 < g then dq_wd 28 ++ [32, 48 + g] else []))) (he : e' = p + (dq_wd (13 + d) ++ (if 0 < g then dq_wd 28 ++ [32, 48 + g] else [])).length) (ok : dq_okE B L e') (hno : pu_isW B L (pu_sk B L e') 12 = false) : pu_bg B L p = d ∧ pu_isW B L (pu_nx B L p) 12 = decide (0 < g) ∧ (0 < g → (pu_tk B L (pu_nx B L (pu_nx B L p)) = 2 ∧ pu_num B L (pu_nx B L (pu_nx B L p)) = g) ∧ pu_nx B L (pu_nx B L (pu_nx B L p)) = pu_sk B L e') ∧ (g = 0 → pu_nx B L p = pu_sk B L e') := by
  have a1 := dq_at_l hat
  have a2 := dq_at_r hat
  generalize hl : (dq_wd (13 + d)).length = l at *
  by_cases h0 : 0 < g
  · rw [if_pos h0] at a2 he
    have e28 : dq_wd 28 = [32] ++ dq_wd 12 := by decide +kernel
    have l12 : (dq_wd 12).length = 4 := by decide +kernel
    have l28 : (dq_wd 28).length = 5 := by decide +kernel
    rw [List.length_append, List.length_append, hl, l28] at he
    have he : e' = p + (l + (5 + 2)) := he
    have b1 := dq_at_l a2
    have b2 := dq_at_r a2
    rw [l28] at b2
    rw [e28] at b1
    have c0 : B (p + l + 0) = 32 := dq_at_b (i := 0) b1 (by show 0 < _ + 1; omega) rfl
    have b3 : dq_at B (p + l + 1) (dq_wd 12) := dq_at_r (P := [32]) b1
    have c5 : B (p + l + 5 + 0) = 32 := dq_at_b (i := 0) b2 (by show 0 < 2; omega) rfl
    have c6 : B (p + l + 5 + 1) = 48 + g := dq_at_b (i := 1) b2 (by show 1 < 2; omega) rfl
    have hLe := ok.1
    obtain ⟨o1, o2⟩ := dq_sp (L := L) c0 (by omega) (dq_wd0 (by decide) b3)
    obtain ⟨n1, i1⟩ := dq_wordE (L := L) (x := 13 + d) (by omega) hl a1 o1
    have o2 : pu_sk B L (p + l) = p + l + 1 := o2
    rw [o2] at n1
    obtain ⟨n2, i2⟩ := dq_word (L := L) (x := 12) (by decide) l12 b3 (by omega) c5 (by show B (p + l + 5 + 1) ≠ 32; rw [c6]; exact dq_n32)
    have ok2 : dq_okE B L (p + l + 5 + 1 + 1) := by rw [show p + l + 5 + 1 + 1 = e' by omega]; exact ok
    obtain ⟨d3, n3⟩ := dq_digE (L := L) (d := g) (by omega) c6 ok2
    rw [show p + l + 5 + 1 + 1 = e' by omega] at n3
    have n2' : pu_nx B L (p + l + 1) = p + l + 5 + 1 := n2
    refine ⟨dq_bg hd i1, ?_, fun _ => ?_, fun z => by omega⟩
    · rw [n1, decide_eq_true h0]
      show pu_isW B L (p + l + 1) 12 = true
      rw [i2 12 (by decide)]
      decide +kernel
    · rw [n1, n2']
      exact ⟨d3, n3⟩
  · rw [if_neg h0, List.append_nil, hl] at he
    rw [he] at ok
    obtain ⟨n1, i1⟩ := dq_wordE (L := L) (x := 13 + d) (by omega) hl a1 ok
    rw [← he] at n1
    refine ⟨dq_bg hd i1, ?_, fun z => absurd z h0, fun _ => n1⟩
    rw [n1, hno, decide_eq_false h0]
/-- a leg -/
theorem dq_rdLeg {κ m g d : Nat} (hκ : κ < 3) (hd : d < 8) (hg : g < 6) (hg0 : κ ≠ 0 → g = 0) (hm : κ = 0 → m < 10) (hm1 : κ = 1 → m < 8 ∧ A (808 + m) ≠ -1) (hm2 : κ = 2 → m = 0) (hat : dq_at B e (dq_lgT κ m g d)) (he : e' = e + (dq_lgT κ m g d).length) (ok : dq_okE B L e') (hno : pu_isW B L (pu_sk B L e') 12 = false) (h8 : pu_nl A q ≠ 8) : dq_okE B L e ∧ pu_la B L (pu_sk B L e) = true ∧ pu_isW B L (pu_sk B L e) 8 = false ∧ pu_isW B L (pu_sk B L e) 12 = false ∧ pu_eG B L A q none (pu_sk B L e) = none ∧ pu_pG B L (pu_sk B L e) = pu_sk B L e' ∧ pu_qG B L A q (pu_sk B L e) = pu_aG A q κ m g d := by
  have hLe := ok.1
  unfold dq_lgT at hat he
  -- the parts: the head word, its number or mark, the tail
  have main : ∀ (y z pt : Nat), y = (if κ = 0 then 9 else if κ = 1 then 10 else 11) → B e = 32 → e + 1 < L → dq_at B (e + 1) (dq_wd y) → (∀ u, u < 33 → pu_isW B L (e + 1) u = decide (dq_wd y = dq_wd u)) → pu_nx B L (e + 1) = z → (κ = 0 → (pu_tk B L z = 2 ∧ pu_num B L z = m) ∧ pu_nx B L z = pt) → (κ = 1 → pu_isM B L z ∧ B z - 97 = m ∧ pu_nx B L z = pt) → (κ = 2 → z = pt) → dq_at B pt (dq_wd (13 + d) ++ (if 0 < g then dq_wd 28 ++ [32, 48 + g] else [])) → e' = pt + (dq_wd (13 + d) ++ (if 0 < g then dq_wd 28 ++ [32, 48 + g] else [])).length → dq_okE B L e ∧ pu_la B L (pu_sk B L e) = true ∧ pu_isW B L (pu_sk B L e) 8 = false ∧ pu_isW B L (pu_sk B L e) 12 = false ∧ pu_eG B L A q none (pu_sk B L e) = none ∧ pu_pG B L (pu_sk B L e) = pu_sk B L e' ∧ pu_qG B L A q (pu_sk B L e) = pu_aG A q κ m g d := by
    intro y z pt hy c0 hL1 hw i1 n1 k0 k1 k2 a2 he2
    have hy21 : y < 21 := by rw [hy]; (split; omega; split <;> omega)
    obtain ⟨o1, o2⟩ := dq_sp (L := L) c0 hL1 (dq_wd0 hy21 hw)
    obtain ⟨r1, r2, r3, r4⟩ := dq_rdTail (L := L) hd hg a2 he2 ok hno
    have hlk : pu_lk B L (e + 1) = κ := by
      unfold pu_lk
      rw [i1 9 (by decide), i1 10 (by decide), hy]
      have hc : κ = 0 ∨ κ = 1 ∨ κ = 2 := by omega
      rcases hc with e | e | e <;> subst e <;> decide +kernel
    have hp1 : pu_p1 B L κ (e + 1) = pt := by
      unfold pu_p1
      have hc : κ = 0 ∨ κ = 1 ∨ κ = 2 := by omega
      rcases hc with e | e | e
      · rw [if_neg (by omega), n1, (k0 e).2]
      · rw [if_neg (by omega), n1, (k1 e).2.2]
      · rw [if_pos e, n1, k2 e]
    have hp2 : pu_p2 B L κ (e + 1) = pu_nx B L pt := by unfold pu_p2; rw [hp1]
    have hgm : pu_gm B L κ (e + 1) = decide (0 < g) := by
      unfold pu_gm
      rw [hp2, r2]
      by_cases e : κ = 0
      · rw [decide_eq_true e, Bool.true_and]
      · rw [decide_eq_false e, Bool.false_and, hg0 e]; rfl
    have hm1' : pu_m1 B L κ (e + 1) = m := by
      unfold pu_m1
      rw [n1]
      have hc : κ = 0 ∨ κ = 1 ∨ κ = 2 := by omega
      rcases hc with e | e | e
      · rw [if_pos e]; exact (k0 e).1.2
      · rw [if_neg (by omega), if_pos e]; exact (k1 e).2.1
      · rw [if_neg (by omega), if_neg (by omega)]; exact (hm2 e).symm
    rw [o2]
    refine ⟨o1, ?_, ?_, ?_, ?_, ?_, ?_⟩
    · unfold pu_la
      rw [i1 9 (by decide), i1 10 (by decide), i1 11 (by decide), hy]
      have hc : κ = 0 ∨ κ = 1 ∨ κ = 2 := by omega
      rcases hc with e | e | e <;> subst e <;> decide +kernel
    · rw [i1 8 (by decide), hy]
      have hc : κ = 0 ∨ κ = 1 ∨ κ = 2 := by omega
      rcases hc with e | e | e <;> subst e <;> decide +kernel
    · rw [i1 12 (by decide), hy]
      have hc : κ = 0 ∨ κ = 1 ∨ κ = 2 := by omega
      rcases hc with e | e | e <;> subst e <;> decide +kernel
    · unfold pu_eG
      rw [hlk, hgm]
      have h2 : pu_l2 B L A q κ none (e + 1) = none := by
        unfold pu_l2
        have h1 : pu_l1 B L A q κ none (e + 1) = none := by
          unfold pu_l1 pu_l0
          rw [n1]
          have hc : κ = 0 ∨ κ = 1 ∨ κ = 2 := by omega
          rcases hc with e | e | e
          · rw [if_pos e, pu_fs_y h8, dq_eN (k0 e).1 (Nat.zero_le _) (by have := hm e; omega)]
          · rw [if_neg (by omega), if_pos e, pu_fs_y h8]
            unfold pu_eK
            rw [pu_fs_y (k1 e).1, (k1 e).2.1, pu_fs_y (hm1 e).2]
          · rw [if_neg (by omega), if_neg (by omega), pu_fs_y h8]
        rw [h1, hp1, r1, pu_fs_y hd]
      unfold pu_l3
      by_cases h0 : 0 < g
      · rw [decide_eq_true h0, if_pos rfl, h2, hp2]
        exact dq_eN (r3 h0).1 (Nat.zero_le _) (by omega)
      · rw [decide_eq_false h0, if_neg (by decide), h2]
    · unfold pu_pG pu_p3
      rw [hlk, hgm, hp2]
      by_cases h0 : 0 < g
      · rw [decide_eq_true h0, if_pos rfl]; exact (r3 h0).2
      · rw [decide_eq_false h0, if_neg (by decide)]; exact r4 (by omega)
    · unfold pu_qG
      rw [hlk, hgm, hm1', hp1, r1]
      have h3 : pu_g3 B L κ (decide (0 < g)) (e + 1) = g := by
        unfold pu_g3
        rw [hp2]
        by_cases h0 : 0 < g
        · rw [decide_eq_true h0, if_pos rfl]; exact (r3 h0).1.2
        · rw [decide_eq_false h0, if_neg (by decide)]; omega
      rw [h3]
  have hc : κ = 0 ∨ κ = 1 ∨ κ = 2 := by omega
  rcases hc with ec | ec | ec
  · subst ec
    rw [if_pos rfl] at hat he
    have e25 : dq_wd 25 = [32] ++ dq_wd 9 := by decide +kernel
    have l25 : (dq_wd 25).length = 3 := by decide +kernel
    have l9 : (dq_wd 9).length = 2 := by decide +kernel
    have a1 := dq_at_l (dq_at_l hat)
    have a2 := dq_at_r (dq_at_l hat)
    have a3 := dq_at_r hat
    rw [l25] at a2
    rw [List.length_append, l25, List.append_assoc] at a3
    have a3 : dq_at B (e + 5) ([32] ++ (dq_wd (13 + d) ++ (if 0 < g then dq_wd 28 ++ [32, 48 + g] else []))) := a3
    rw [List.length_append, List.length_append, l25, List.append_assoc, List.length_append] at he
    have he : e' = e + (5 + (1 + (dq_wd (13 + d) ++ (if 0 < g then dq_wd 28 ++ [32, 48 + g] else [])).length)) := he
    rw [e25] at a1
    have c0 : B (e + 0) = 32 := dq_at_b (i := 0) a1 (by show 0 < _ + 1; omega) rfl
    have b1 : dq_at B (e + 1) (dq_wd 9) := dq_at_r (P := [32]) a1
    have c3 : B (e + 3 + 0) = 32 := dq_at_b (i := 0) a2 (by show 0 < 2; omega) rfl
    have c4 : B (e + 3 + 1) = 48 + m := dq_at_b (i := 1) a2 (by show 1 < 2; omega) rfl
    have c5 : B (e + 5 + 0) = 32 := dq_at_b (i := 0) a3 (by show 0 < _ + 1; omega) rfl
    have b6 : dq_at B (e + 5 + 1) (dq_wd (13 + d) ++ (if 0 < g then dq_wd 28 ++ [32, 48 + g] else [])) := dq_at_r (P := [32]) a3
    have c6 : B (e + 3 + 1 + 2) ≠ 32 := dq_wd0 (x := 13 + d) (by omega) (dq_at_l b6)
    obtain ⟨n1, i1⟩ := dq_word (L := L) (x := 9) (by decide) l9 b1 (by omega) c3 (by show B (e + 3 + 1) ≠ 32; rw [c4]; exact dq_n32)
    obtain ⟨d2, n2⟩ := dq_dgS (L := L) (p := e + 3 + 1) (hm rfl) c4 (by omega) c5 c6
    exact main 9 (e + 3 + 1) (e + 5 + 1) rfl c0 (by omega) b1 i1 n1 (fun _ => ⟨d2, n2⟩) (fun z => absurd z (by decide)) (fun z => absurd z (by decide)) b6 (by omega)
  · subst ec
    rw [if_neg (by decide), if_pos rfl] at hat he
    have e26 : dq_wd 26 = [32] ++ (dq_wd 10 ++ [32]) := by decide +kernel
    have l26 : (dq_wd 26).length = 4 := by decide +kernel
    have l10 : (dq_wd 10).length = 2 := by decide +kernel
    have a1 := dq_at_l (dq_at_l hat)
    have a2 := dq_at_r (dq_at_l hat)
    have a3 := dq_at_r hat
    rw [l26] at a2
    rw [List.length_append, l26, List.append_assoc] at a3
    have a3 : dq_at B (e + 5) ([32] ++ (dq_wd (13 + d) ++ (if 0 < g then dq_wd 28 ++ [32, 48 + g] else []))) := a3
    rw [List.length_append, List.length_append, l26, List.append_assoc, List.length_append] at he
    have he : e' = e + (5 + (1 + (dq_wd (13 + d) ++ (if 0 < g then dq_wd 28 ++ [32, 48 + g] else [])).length)) := he
    rw [e26] at a1
    have c0 : B (e + 0) = 32 := dq_at_b (i := 0) a1 (by show 0 < _ + 1; omega) rfl
    have b0 : dq_at B (e + 1) (dq_wd 10 ++ [32]) := dq_at_r (P := [32]) a1
    have b1 := dq_at_l b0
    have b2 := dq_at_r b0
    rw [l10] at b2
    have c3 : B (e + 1 + 2 + 0) = 32 := dq_at_b (i := 0) b2 (by show 0 < 1; omega) rfl
    have c4 : B (e + 4 + 0) = 97 + m := dq_at_b (i := 0) a2 (by show 0 < 1; omega) rfl
    have c5 : B (e + 5 + 0) = 32 := dq_at_b (i := 0) a3 (by show 0 < _ + 1; omega) rfl
    have b6 : dq_at B (e + 5 + 1) (dq_wd (13 + d) ++ (if 0 < g then dq_wd 28 ++ [32, 48 + g] else [])) := dq_at_r (P := [32]) a3
    have c6 : B (e + 5 + 1) ≠ 32 := dq_wd0 (x := 13 + d) (by omega) (dq_at_l b6)
    obtain ⟨n1, i1⟩ := dq_word (L := L) (x := 10) (by decide) l10 b1 (by omega) c3 (by show B (e + 4 + 0) ≠ 32; rw [c4]; omega)
    obtain ⟨o5, o6⟩ := dq_sp (L := L) c5 (by omega) c6
    obtain ⟨t1, t2⟩ := dq_markE (L := L) (p := e + 4) (hm1 rfl).1 c4 o5
    have t2 : pu_nx B L (e + 4) = pu_sk B L (e + 5 + 0) := t2
    rw [o6] at t2
    exact main 10 (e + 4) (e + 5 + 1) rfl c0 (by omega) b1 i1 n1 (fun z => absurd z (by decide)) (fun _ => ⟨t1, by show B (e + 4 + 0) - 97 = m; rw [c4]; omega, t2⟩) (fun z => absurd z (by decide)) b6 (by omega)
  · subst ec
    rw [if_neg (by decide), if_neg (by decide)] at hat he
    have e27 : dq_wd 27 = [32] ++ dq_wd 11 := by decide +kernel
    have l27 : (dq_wd 27).length = 4 := by decide +kernel
    have l11 : (dq_wd 11).length = 3 := by decide +kernel
    have a1 := dq_at_l hat
    have a3 := dq_at_r hat
    rw [l27, List.append_assoc] at a3
    rw [List.length_append, l27, List.append_assoc, List.length_append] at he
    have he : e' = e + (4 + (1 + (dq_wd (13 + d) ++ (if 0 < g then dq_wd 28 ++ [32, 48 + g] else [])).length)) := he
    rw [e27] at a1
    have c0 : B (e + 0) = 32 := dq_at_b (i := 0) a1 (by show 0 < _ + 1; omega) rfl
    have b1 : dq_at B (e + 1) (dq_wd 11) := dq_at_r (P := [32]) a1
    have c4 : B (e + 4 + 0) = 32 := dq_at_b (i := 0) a3 (by show 0 < _ + 1; omega) rfl
    have b6 : dq_at B (e + 4 + 1) (dq_wd (13 + d) ++ (if 0 < g then dq_wd 28 ++ [32, 48 + g] else [])) := dq_at_r (P := [32]) a3
    have c5 : B (e + 4 + 1) ≠ 32 := dq_wd0 (x := 13 + d) (by omega) (dq_at_l b6)
    obtain ⟨n1, i1⟩ := dq_word (L := L) (x := 11) (by decide) l11 b1 (by omega) c4 c5
    exact main 11 (e + 4 + 1) (e + 4 + 1) rfl c0 (by omega) b1 i1 n1 (fun z => absurd z (by decide)) (fun z => absurd z (by decide)) (fun _ => rfl) b6 (by omega)
end DQM
