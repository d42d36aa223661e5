theorem dw_u51 : lw_tbl[51]? = some ((Jvm.Cond.initialized "java/lang/Math")) := by decide +kernel
theorem dw_u52 : lw_tbl[52]? = some ((Jvm.Cond.initialized "java/lang/System")) := by decide +kernel
theorem dw_u478 : lw_tbl[478]? = some ((Jvm.Cond.static ({ cls := "java/lang/Math", name := "min", desc := "(II)I" } : Jvm.MethodName))) := by decide +kernel
theorem dw_u479 : lw_tbl[479]? = some ((Jvm.Cond.code ({ cls := "java/lang/Math", name := "min", desc := "(II)I" } : Jvm.MethodName) prog_29_method_69_code (2 : Nat) (Option.some Jvm.ClassFile.FieldType.int))) := by decide +kernel
theorem dw_u481 : lw_tbl[481]? = some ((Jvm.Cond.static ({ cls := "java/lang/System", name := "arraycopy", desc := "(Ljava/lang/Object;ILjava/lang/Object;II)V" } : Jvm.MethodName))) := by decide +kernel
theorem dw_u482 : lw_tbl[482]? = some ((Jvm.Cond.native ({ cls := "java/lang/System", name := "arraycopy", desc := "(Ljava/lang/Object;ILjava/lang/Object;II)V" } : Jvm.MethodName))) := by decide +kernel
theorem dw_u699 : lw_tbl[699]? = some ((Jvm.Cond.static ({ cls := "java/lang/Math", name := "max", desc := "(II)I" } : Jvm.MethodName))) := by decide +kernel
theorem dw_u700 : lw_tbl[700]? = some ((Jvm.Cond.code ({ cls := "java/lang/Math", name := "max", desc := "(II)I" } : Jvm.MethodName) prog_29_method_65_code (2 : Nat) (Option.some Jvm.ClassFile.FieldType.int))) := by decide +kernel
theorem dw_u714 : lw_tbl[714]? = some ((Jvm.Cond.static ({ cls := "java/lang/Math", name := "abs", desc := "(I)I" } : Jvm.MethodName))) := by decide +kernel
theorem dw_u715 : lw_tbl[715]? = some ((Jvm.Cond.code ({ cls := "java/lang/Math", name := "abs", desc := "(I)I" } : Jvm.MethodName) prog_29_method_59_code (1 : Nat) (Option.some Jvm.ClassFile.FieldType.int))) := by decide +kernel
theorem e_mmin {z : tw_Z} {b : Nat} {cc : ByteArray} {own : String} {nL pc : Nat} {E : Prop} {Y : dw_S} {L : List (Nat × Value)} {st : List Value} {ix : Nat} {x y : Int32} (X : tw_X z cc own nL) (hR0 : tw_zcells z ≤ (tw_zR z).cells ∧ tw_zslots z ≤ (tw_zR z).slots) (d : decode cc pc = .ok (.invokestatic ix, 3)) (i : Nat) (hi : lw_tbl[i]? = some (.methodLink own ix ({ cls := "java/lang/Math", name := "min", desc := "(II)I" } : Jvm.MethodName))) (h1 : 1 ≤ (tw_zR z).frames) (h2 : 21 ≤ (tw_zR z).locals) (hst : (st.map fun v => v.category).sum ≤ 8) (kk : dw_Rf z b E Y (pc + 3) L (.int (if y < x then y else x) :: st)) : dw_Rf z b E Y pc L (.int y :: .int x :: st) := fun hE H locs ls hP hS hl => va_mmin X.1 X.2.1 (tw_hml X hl) X.ow (X.ws i hi rfl) ((X.2.2.2.2.2.1.1 _ (List.mem_of_getElem? dw_u478) rfl).use rfl) ((X.2.2.2.2.2.1.1 _ (List.mem_of_getElem? dw_u51) rfl).use rfl) ((X.2.2.2.2.2.1.1 _ (List.mem_of_getElem? dw_u479) rfl).use rfl) h1 (by omega) hR0.1 hR0.2 d (kk hE H locs ls hP hS hl)
theorem e_mmax {z : tw_Z} {b : Nat} {cc : ByteArray} {own : String} {nL pc : Nat} {E : Prop} {Y : dw_S} {L : List (Nat × Value)} {st : List Value} {ix : Nat} {x y : Int32} (X : tw_X z cc own nL) (hR0 : tw_zcells z ≤ (tw_zR z).cells ∧ tw_zslots z ≤ (tw_zR z).slots) (d : decode cc pc = .ok (.invokestatic ix, 3)) (i : Nat) (hi : lw_tbl[i]? = some (.methodLink own ix ({ cls := "java/lang/Math", name := "max", desc := "(II)I" } : Jvm.MethodName))) (h1 : 1 ≤ (tw_zR z).frames) (h2 : 21 ≤ (tw_zR z).locals) (hst : (st.map fun v => v.category).sum ≤ 8) (kk : dw_Rf z b E Y (pc + 3) L (.int (if x < y then y else x) :: st)) : dw_Rf z b E Y pc L (.int y :: .int x :: st) := fun hE H locs ls hP hS hl => va_mmax X.1 X.2.1 (tw_hml X hl) X.ow (X.ws i hi rfl) ((X.2.2.2.2.2.1.1 _ (List.mem_of_getElem? dw_u699) rfl).use rfl) ((X.2.2.2.2.2.1.1 _ (List.mem_of_getElem? dw_u51) rfl).use rfl) ((X.2.2.2.2.2.1.1 _ (List.mem_of_getElem? dw_u700) rfl).use rfl) h1 (by omega) hR0.1 hR0.2 d (kk hE H locs ls hP hS hl)
theorem e_mabs {z : tw_Z} {b : Nat} {cc : ByteArray} {own : String} {nL pc : Nat} {E : Prop} {Y : dw_S} {L : List (Nat × Value)} {st : List Value} {ix : Nat} {x : Int32} (X : tw_X z cc own nL) (hR0 : tw_zcells z ≤ (tw_zR z).cells ∧ tw_zslots z ≤ (tw_zR z).slots) (d : decode cc pc = .ok (.invokestatic ix, 3)) (i : Nat) (hi : lw_tbl[i]? = some (.methodLink own ix ({ cls := "java/lang/Math", name := "abs", desc := "(I)I" } : Jvm.MethodName))) (h1 : 1 ≤ (tw_zR z).frames) (h2 : 21 ≤ (tw_zR z).locals) (hst : (st.map fun v => v.category).sum ≤ 8) (kk : dw_Rf z b E Y (pc + 3) L (.int (if 0 ≤ x then x else 0 - x) :: st)) : dw_Rf z b E Y pc L (.int x :: st) := fun hE H locs ls hP hS hl => va_mabs X.1 X.2.1 (tw_hml X hl) X.ow (X.ws i hi rfl) ((X.2.2.2.2.2.1.1 _ (List.mem_of_getElem? dw_u714) rfl).use rfl) ((X.2.2.2.2.2.1.1 _ (List.mem_of_getElem? dw_u51) rfl).use rfl) ((X.2.2.2.2.2.1.1 _ (List.mem_of_getElem? dw_u715) rfl).use rfl) h1 (by omega) hR0.1 hR0.2 d (kk hE H locs ls hP hS hl)
/-- bytes from row to row -/
def dw_cpo (sp dp n : Int32) (n0 n1 : Nat) : Prop := (¬ sp < 0 ∧ ¬ dp < 0 ∧ ¬ n < 0) ∧ sp.toNatClampNeg + n.toNatClampNeg ≤ n0 ∧ dp.toNatClampNeg + n.toNatClampNeg ≤ n1
theorem dw_pA_E {b : Nat} {C : Nat → ClassId} {Y : dw_S} {k : Nat} {f : Nat → Int32} (h : dw_k Y k = 22) : dw_E b C (dw_pA Y k f) k = .inl (C 5, dw_l Y k, .inl f) := by
  rw [dw_E22 (Y := dw_pA Y k f) h]
  have e : dw_i (dw_pA Y k f) k = f := tw_upA_s
  rw [e]
  rfl
theorem e_copyb {z : tw_Z} {b : Nat} {cc : ByteArray} {own : String} {nL pc : Nat} {Y : dw_S} {L : List (Nat × Value)} {st : List Value} {ix : Nat} {k0 k1 : Nat} {sp dp n : Int32} {K : dw_S → Prop} (X : tw_X z cc own nL) (hb : tw_zB z ≤ b) (d : decode cc pc = .ok (.invokestatic ix, 3)) (i : Nat) (hi : lw_tbl[i]? = some (.methodLink own ix ({ cls := "java/lang/System", name := "arraycopy", desc := "(Ljava/lang/Object;ILjava/lang/Object;II)V" } : Jvm.MethodName))) (hf : 1 ≤ (tw_zR z).frames) (hlo : (st.map fun v => v.category).sum + (nativeFrameWords "java/lang/System" "arraycopy" 5 + 11) ≤ (tw_zR z).locals) (kk : ∀ Y2, dw_Rf z b (K Y2) Y2 (pc + 3) L st) : dw_Rf z b (pw_ck ((dw_is Y k0 22 ∧ dw_is Y k1 22) ∧ dw_cpo sp dp n (dw_l Y k0) (dw_l Y k1) ∧ ∀ i, i < n.toNatClampNeg → fits .byte (.int (dw_i Y k0 (sp.toNatClampNeg + i))) = true) (pw_lt (dw_pA Y k1 (va_cpy (dw_i Y k0) (dw_i Y k1) sp.toNatClampNeg dp.toNatClampNeg n.toNatClampNeg)) K)) Y pc L (.int n :: .int dp :: .ref (b + k1) :: .int sp :: .ref (b + k0) :: st) :=
  e_ck (fun h => fun hE H locs ls hP hS hl => by
    obtain ⟨⟨h0, h1⟩, ⟨⟨g1, g2, g3⟩, g4, g5⟩, g6⟩ := h
    obtain ⟨i0, hi0, -⟩ := dw_at (b := b) (C := tw_zC z) h0 (by decide)
    obtain ⟨i1, hi1, hi2⟩ := dw_at (b := b) (C := tw_zC z) h1 (by decide)
    rw [dw_E22 h0.2.2] at hi0
    rw [dw_E22 h1.2.2] at hi1
    refine va_copyi X.1 X.2.1 (tw_hml X hl) X.ow (X.ws i hi rfl) ((X.2.2.2.2.2.1.1 _ (List.mem_of_getElem? dw_u482) rfl).use rfl) ((X.2.2.2.2.2.1.1 _ (List.mem_of_getElem? dw_u481) rfl).use rfl) ((X.2.2.2.2.2.1.1 _ (List.mem_of_getElem? dw_u52) rfl).use rfl) X.K hP.1 (dw_D hb) (dw_selfS hS) (442 + i0) (442 + i1) 5 5 (ty := .byte) hi0 hi1 rfl rfl rfl g1 g2 g3 g4 g5 g6 hf hlo d (fun H1 locs1 hP1 _ hS1 => ?_)
    exact kk _ hE H1 locs1 ls (dw_W_put (Y1 := dw_pA Y k1 _) hP hi2 rfl rfl rfl (fun a ha => dw_E_pA ha) hS1.1 (by rw [dw_pA_E h1.2.2]; exact hP1)) (dw_putS hS hS1) hl)
theorem dw_bytfit : ∀ w, w < 33 → ∀ i, i < tw_len.getD w 0 → fits .byte (.int ((tw_byt.getD w []).getD i 0)) = true := by decide +kernel
/-- bytes of a text constant into a row -/
theorem e_copyt {z : tw_Z} {b : Nat} {cc : ByteArray} {own : String} {nL pc : Nat} {Y : dw_S} {L : List (Nat × Value)} {st : List Value} {ix : Nat} {w k1 : Nat} {sp dp n : Int32} {K : dw_S → Prop} (X : tw_X z cc own nL) (hb : tw_zB z ≤ b) (hw : w < 33) (d : decode cc pc = .ok (.invokestatic ix, 3)) (i : Nat) (hi : lw_tbl[i]? = some (.methodLink own ix ({ cls := "java/lang/System", name := "arraycopy", desc := "(Ljava/lang/Object;ILjava/lang/Object;II)V" } : Jvm.MethodName))) (hf : 1 ≤ (tw_zR z).frames) (hlo : (st.map fun v => v.category).sum + (nativeFrameWords "java/lang/System" "arraycopy" 5 + 11) ≤ (tw_zR z).locals) (kk : ∀ Y2, dw_Rf z b (K Y2) Y2 (pc + 3) L st) : dw_Rf z b (pw_ck (dw_is Y k1 22 ∧ dw_cpo sp dp n (tw_len.getD w 0) (dw_l Y k1)) (pw_lt (dw_pA Y k1 (va_cpy (fun i => (tw_byt.getD w []).getD i 0) (dw_i Y k1) sp.toNatClampNeg dp.toNatClampNeg n.toNatClampNeg)) K)) Y pc L (.int n :: .int dp :: .ref (b + k1) :: .int sp :: .ref (tw_zS z (100 + w)) :: st) :=
  e_ck (fun h => fun hE H locs ls hP hS hl => by
    obtain ⟨h1, ⟨⟨g1, g2, g3⟩, g4, g5⟩⟩ := h
    obtain ⟨i1, hi1, hi2⟩ := dw_at (b := b) (C := tw_zC z) h1 (by decide)
    rw [dw_E22 h1.2.2] at hi1
    have nn : ∀ z : Int32, ¬ z < 0 → z.toInt = (z.toNatClampNeg : Int) := by
      intro z hz
      have hz0 : (0 : Int) ≤ z.toInt := by
        have := Int32.not_lt.mp hz
        simpa using Int32.le_iff_toInt_le.mp this
      show z.toInt = ((z.toInt.toNat : Nat) : Int)
      omega
    intro T hT XT
    obtain ⟨scr, hs1, hs2, hs3, hs4, -, hs5, hs7⟩ := (X.2.2.2.2.2.1.2.2.2.1.1 w hw).2.2.2
    have hc0 : H[tw_zS z (100 + w)]? = some scr := by rw [hS.2.1 _ (Array.getElem?_eq_some_iff.mp hs1).1 hs7]; exact hs1
    have hc1 : H[b + k1]? = some (vp_cell (tw_zC z 5) (dw_l Y k1, .inl (dw_i Y k1))) := hP.1 _ _ hi1
    obtain ⟨hs6, k0, hk0, cm0, hkk0⟩ := hs2
    obtain ⟨-, k9, hk9, cm1, hkk1⟩ := (X.K.2 5 _ rfl).1 (dw_l Y k1) (fun j => .int (dw_i Y k1 j))
    have g5' : dp.toNatClampNeg + n.toNatClampNeg ≤ (arrV (tw_zC z 5) (dw_l Y k1) (fun j => .int (dw_i Y k1 j))).slots.size := by rw [arrV_size]; exact g5
    obtain ⟨vm', X', step⟩ := XT.arraycopy X.1 X.ow (X.ws i hi rfl) ((X.2.2.2.2.2.1.1 _ (List.mem_of_getElem? dw_u482) rfl).use rfl) ((X.2.2.2.2.2.1.1 _ (List.mem_of_getElem? dw_u481) rfl).use rfl) ((X.2.2.2.2.2.1.1 _ (List.mem_of_getElem? dw_u52) rfl).use rfl) (src := tw_zS z (100 + w)) (dst := b + k1) (cs := scr) (cd := vp_cell (tw_zC z 5) (dw_l Y k1, .inl (dw_i Y k1))) (srcPos := sp) (destPos := dp) (n := n) (by rw [hT]; exact hc0) (by rw [hT]; exact hc1)
      hs6 (fun _ h => by cases h) hs3 (fun h => by cases h) hk0 hk9 hkk0 hkk1 (by simp [refKind]) g1 g2 g3
      (by rw [nn sp g1, nn n g3]; omega)
      (by rw [nn dp g2, nn n g3]; show ¬ _ > ((arrV (tw_zC z 5) (dw_l Y k1) (fun j => .int (dw_i Y k1 j))).slots.size : Int); omega)
      (fun vm₁ _ i hi => by
        have e : scr.slots.getD (sp.toNatClampNeg + i) .null = .int ((tw_byt.getD w []).getD (sp.toNatClampNeg + i) 0) := by
          rw [Array.getD_eq_getD_getElem?, hs5 _ (by omega)]
          rfl
        refine ⟨?_, ?_⟩
        · rw [e]
          exact dw_bytfit w hw _ (by omega)
        · rw [e]
          exact trivial)
      (g := F0 (tw_zm z) pc ls (.int n :: .int dp :: .ref (b + k1) :: .int sp :: .ref (tw_zS z (100 + w)) :: st)) rfl (by rw [tw_hml X hl]) (rest := st) rfl (by rw [X.2.1]; exact d) hf (by show 2 * 0 + _ + _ ≤ _; omega)
    have e1 : copied scr (vp_cell (tw_zC z 5) (dw_l Y k1, .inl (dw_i Y k1))) sp dp n = vp_cell (tw_zC z 5) (dw_l Y k1, .inl (va_cpy (fun i => (tw_byt.getD w []).getD i 0) (dw_i Y k1) sp.toNatClampNeg dp.toNatClampNeg n.toNatClampNeg)) := va_copiedX (fun z => .int z) scr (tw_zC z 5) (fun i => (tw_byt.getD w []).getD i 0) (dw_i Y k1) hs5 g4
    rw [e1] at X' step
    generalize hg : va_cpy (fun i => (tw_byt.getD w []).getD i 0) (dw_i Y k1) sp.toNatClampNeg dp.toNatClampNeg n.toNatClampNeg = gg at X' step hE e1
    have hl9 : b + k1 < H.size := (Array.getElem?_eq_some_iff.mp hc1).1
    have hheap : ((T.setVm vm').setCell (b + k1) (vp_cell (tw_zC z 5) (dw_l Y k1, .inl gg))).heap = H.setIfInBounds (b + k1) (vp_cell (tw_zC z 5) (dw_l Y k1, .inl gg)) := by rw [← hT]; rfl
    have oq : ∀ q : Nat, q ≠ b + k1 → (H.setIfInBounds (b + k1) (vp_cell (tw_zC z 5) (dw_l Y k1, .inl gg)))[q]? = H[q]? := fun q hq => by simp [Array.getElem?_setIfInBounds, Ne.symm hq]
    have hDD := dw_D (Y := Y) (C := tw_zC z) hb
    obtain ⟨t, a1, b1⟩ := kk _ hE _ _ ls (dw_W_put (Y1 := dw_pA Y k1 gg) hP hi2 rfl rfl rfl (fun a ha => dw_E_pA ha) (Nat.le_of_eq (by simp)) (by rw [dw_pA_E h1.2.2]; exact hP.1.set hDD hi1 (show (H.setIfInBounds (b + k1) _)[b + k1]? = some _ by simp [Array.getElem?_setIfInBounds, hl9]) oq)) ⟨by simp; exact hS.1, fun q g1 g2 => by
        rw [oq q (fun e => g2 (by rw [e]; exact hDD.2 _ _ hi1))]
        exact hS.2.1 q g1 g2, fun q hq => by
        rcases List.mem_append.mp hq with h | h
        · exact hS.2.2 q h
        · obtain ⟨z, -, hz⟩ := List.mem_map.mp h
          rw [← hz]
          exact hDD.2 _ _ hi1⟩ hl _ hheap X'
    exact ⟨t, step t a1, b1⟩)
theorem e_ssval {z : tw_Z} {b : Nat} {cc : ByteArray} {own : String} {nL pc : Nat} {E : Prop} {Y : dw_S} {L : List (Nat × Value)} {st : List Value} {ix : Nat} {w i : Nat} (X : tw_X z cc own nL) (d : decode cc pc = .ok (.getfield ix, 3)) (hi : lw_tbl[i]? = some (.fieldLink own ix "java/lang/String" "value" "[B")) (hw : w < 33) (kk : dw_Rf z b E Y (pc + 3) L (.ref (tw_zS z (100 + w)) :: st)) : dw_Rf z b E Y pc L (.ref (tw_zS z w) :: st) :=
  fun hE H locs ls hP hS hl => vk_getf X.1 X.2.1 (X.2.2.2.2.2.1.2.2.2.1.1 w hw).2.2.1 hS X.ow (X.ws _ hi rfl) (fun _ h => h) d (kk hE H locs ls hP hS hl)
theorem e_sslen {z : tw_Z} {b : Nat} {cc : ByteArray} {own : String} {nL pc : Nat} {E : Prop} {Y : dw_S} {L : List (Nat × Value)} {st : List Value} {ix : Nat} {w : Nat} (X : tw_X z cc own nL) (d : decode cc pc = .ok (.arraylength, 1)) (hw : w < 33) (kk : dw_Rf z b E Y (pc + 1) L (.int (Int32.ofNat (tw_len.getD w 0)) :: st)) : dw_Rf z b E Y pc L (.ref (tw_zS z (100 + w)) :: st) :=
  fun hE H locs ls hP hS hl => va_tlen X.1 X.2.1 (X.2.2.2.2.2.1.2.2.2.1.1 w hw).2.2.2 hS rfl d (kk hE H locs ls hP hS hl)
theorem e_scom {z : tw_Z} {b : Nat} {cc : ByteArray} {own : String} {nL pc : Nat} {E : Prop} {Y : dw_S} {L : List (Nat × Value)} {st : List Value} {ix : Nat} {i : Nat} (X : tw_X z cc own nL) (d : decode cc pc = .ok (.getstatic ix, 3)) (hi : lw_tbl[i]? = some (.fieldLink own ix "java/lang/String" "COMPACT_STRINGS" "Z")) (kk : dw_Rf z b E Y (pc + 3) L (.int 1 :: st)) : dw_Rf z b E Y pc L st :=
  fun hE H locs ls hP hS hl => va_gets X.1 X.2.1 X.2.2.2.2.2.1.2.2.2.2.2.2.2.1 hS X.ow (X.ws _ hi rfl) (fun _ h => h) d (kk hE H locs ls hP hS hl)
/-- the bearings -/
theorem e_bear {z : tw_Z} {b : Nat} {cc : ByteArray} {own : String} {nL pc : Nat} {E : Prop} {Y : dw_S} {L : List (Nat × Value)} {st : List Value} {ix : Nat} {i : Nat} (X : tw_X z cc own nL) (hA : dw_AK (tw_zB z) (tw_zS z) (tw_zs z)) (d : decode cc pc = .ok (.getstatic ix, 3)) (hi : lw_tbl[i]? = some (.fieldLink own ix "TreasureWalkLaw" "BEARINGS" "[Ljava/lang/String;")) (kk : dw_Rf z b E Y (pc + 3) L (.ref (tw_zS z 91) :: st)) : dw_Rf z b E Y pc L st :=
  fun hE H locs ls hP hS hl => va_gets X.1 X.2.1 hA.2.2.2.1.1 hS X.ow (X.ws _ hi rfl) (fun _ h => h) d (kk hE H locs ls hP hS hl)
theorem e_beald {z : tw_Z} {b : Nat} {cc : ByteArray} {own : String} {nL pc : Nat} {E : Prop} {Y : dw_S} {L : List (Nat × Value)} {st : List Value} {ix : Nat} {x : Int32} (X : tw_X z cc own nL) (hA : dw_AK (tw_zB z) (tw_zS z) (tw_zs z)) (d : decode cc pc = .ok (.aaload, 1)) (kk : dw_Rf z b E Y (pc + 1) L (.ref (tw_zS z (13 + x.toNatClampNeg)) :: st)) : dw_Rf z b (pw_ck (tw_ok x 8 = true) E) Y pc L (.int x :: .ref (tw_zS z 91) :: st) :=
  e_ck (fun h => fun hE H locs ls hP hS hl => by
    have hin := tw_ok_in h
    have hlt : x.toNatClampNeg < 8 := Nat.not_le.mp fun q => hin (Or.inr q)
    obtain ⟨cell, h1, h2, h3, h4, h5, h6, h7⟩ := hA.2.2.2.1.2
    have hc : H[tw_zS z 91]? = some cell := by rw [hS.2.1 _ (Array.getElem?_eq_some_iff.mp h1).1 h7]; exact h1
    exact W.aald (v := .ref (tw_zS z (13 + x.toNatClampNeg))) (ty := .object "java/lang/String") X.1 X.2.1 hc h2 rfl h3 (by intro q; rcases q with q | q; exact hin (Or.inl q); omega) (h6 _ hlt) rfl rfl d (kk hE H locs ls hP hS hl))
theorem e_dup_x1 {z : tw_Z} {b : Nat} {cc : ByteArray} {own : String} {nL pc : Nat} {E : Prop} {Y : dw_S} {L : List (Nat × Value)} {st : List Value} {ix : Nat} {va vb : Value} (X : tw_X z cc own nL) (d : decode cc pc = .ok (.dup_x1, 1)) (hva : va.category = 1) (hvb : vb.category = 1) (kk : dw_Rf z b E Y (pc + 1) L (va :: vb :: va :: st)) : dw_Rf z b E Y pc L (va :: vb :: st) :=
  fun hE H locs ls hP hS hl => lv_dup_x1 X.1 X.2.1 d hva hvb (kk hE H locs ls hP hS hl)
theorem e_castA {z : tw_Z} {b : Nat} {cc : ByteArray} {own : String} {nL pc : Nat} {E : Prop} {Y : dw_S} {L : List (Nat × Value)} {st : List Value} {ix : Nat} {k kd a : Nat} {nm : String} {x : vp_A} (X : tw_X z cc own nL) (d : decode cc pc = .ok (.checkcast ix, 3)) (i : Nat) (hi : lw_tbl[i]? = some (.classLink own ix nm)) (hkd : kd ≠ 99) (hE0 : dw_k Y k = kd → dw_E b (tw_zC z) Y k = .inl (tw_zC z a, x)) (hnm : (tw_zs z).vm.findClass nm = some (tw_zC z a)) (kk : dw_Rf z b E Y (pc + 3) L (.ref (b + k) :: st)) : dw_Rf z b (pw_ck (dw_is Y k kd) E) Y pc L (.ref (b + k) :: st) :=
  e_ck (fun h => fun hE H locs ls hP hS hl => by
    obtain ⟨q, hq, -⟩ := dw_at (b := b) (C := tw_zC z) h hkd
    rw [hE0 h.2.2] at hq
    exact va_castA X.1 X.2.1 X.ow (X.ws i hi rfl) hP.1 (442 + q) hq hnm d (kk hE H locs ls hP hS hl))
/-- an array's clone -/
theorem e_clone {z : tw_Z} {b : Nat} {cc : ByteArray} {own : String} {nL pc : Nat} {Y : dw_S} {L : List (Nat × Value)} {st : List Value} {ix : Nat} {k kd a : Nat} {ad : String} {ty : FieldType} {c s MC MS : Nat} {K : Nat → dw_S → Prop} (X : tw_X z cc own nL) (hR : tw_zcells z = c ∧ tw_zslots z = s) (hRM : (tw_zR z).cells = MC ∧ (tw_zR z).slots = MS) (d : decode cc pc = .ok (.invokevirtual ix, 3)) (i : Nat) (hi : lw_tbl[i]? = some (.methodLink own ix ⟨ad, "clone", "()Ljava/lang/Object;"⟩)) (hsame : (Cond.sameMethod ad "java/lang/Object" "clone" "()Ljava/lang/Object;") ∈ lw_tbl) (hnat : (Cond.native ⟨"java/lang/Object", "clone", "()Ljava/lang/Object;"⟩) ∈ lw_tbl) (hinst : (Cond.instanceMethod ⟨"java/lang/Object", "clone", "()Ljava/lang/Object;"⟩) ∈ lw_tbl) (hsel : (Cond.selects ad ⟨ad, "clone", "()Ljava/lang/Object;"⟩ ⟨"java/lang/Object", "clone", "()Ljava/lang/Object;"⟩) ∈ lw_tbl) (hcl : va_Nw (.castable ad "java/lang/Cloneable") (tw_zs z)) (hkd : kd ≠ 99) (hE0 : ∀ (Y : dw_S) k, dw_k Y k = kd → dw_E b (tw_zC z) Y k = .inl (tw_zC z a, dw_l Y k, .inl (dw_i Y k))) (ht : (tw_tys (tw_zC z))[a]? = some (tw_zC z a, ty)) (hnm : (tw_zs z).vm.findClass ad = some (tw_zC z a)) (hfr : 1 ≤ (tw_zR z).frames) (hlo : (st.map fun v => v.category).sum + 14 ≤ (tw_zR z).locals)
    (kk : ∀ a Y2, dw_Rf (tw_cz z (c + 1) (s + dw_l Y k)) b (K a Y2) Y2 (pc + 3) L (.ref (b + a) :: st)) : dw_Rf z b (pw_ck ((dw_is Y k kd ∧ ∀ i, i < dw_l Y k → fits ty (.int (dw_i Y k i)) = true) ∧ c + 1 ≤ MC ∧ s + dw_l Y k ≤ MS) (pw_al (dw_n Y) (fun a => pw_lt (dw_nw Y a kd (dw_l Y k) (dw_i Y k) (fun _ => none)) (K a)))) Y pc L (.ref (b + k) :: st) :=
  e_ck (fun hc => by
    obtain ⟨rfl, rfl⟩ := hR
    obtain ⟨rfl, rfl⟩ := hRM
    obtain ⟨⟨hk, hfit⟩, hc1, hc2⟩ := hc
    intro hE1 H locs ls hP hS hl
    obtain ⟨q, hq, -⟩ := dw_at (b := b) (C := tw_zC z) hk hkd
    rw [hE0 Y k hk.2.2] at hq
    obtain ⟨an, hz, ha⟩ := dw_fresh hP
    obtain ⟨c0, t0', f1, f2, f3⟩ := Cond.castable_spec (va_Nw.use (A := tw_zargs z) rfl hcl)
    cases hnm.symm.trans f1
    intro T hT XT
    have hcell : T.heap[b + k]? = some (vp_cell (tw_zC z a) (dw_l Y k, .inl (dw_i Y k))) := by rw [hT]; exact hP.1 _ _ hq
    obtain ⟨-, kA, hkA, comp, hkind⟩ := State.isArrayOf_alike XT.warmed.alike ((X.K.2 a _ ht).1 0 (fun _ => .null))
    obtain ⟨-, kS, hkS, compS, hkindS⟩ := (X.K.2 a _ ht).1 0 (fun _ => .null)
    have hsz : (vp_cell (tw_zC z a) (dw_l Y k, .inl (dw_i Y k))).slots.size = dw_l Y k := arrV_size _ _ _
    obtain ⟨vm', X', step⟩ := XT.cloneArray X.1 X.ow (X.ws i hi rfl) (tw_wd X hsame rfl) (tw_wd X hnat rfl) (tw_wd X hinst rfl) (tw_wd X hsel rfl) (a := b + k) (cell := vp_cell (tw_zC z a) (dw_l Y k, .inl (dw_i Y k))) hcell (fun k h => by cases h) (fun h => by cases h) hnm f2 f3
      (fun i v hv => by
        have hk' : T.vm.classes[tw_zC z a]? = some kA := hkA
        have hv1 : fits ty v = true := va_fit (ty := ty) (cA := tw_zC z a) (n := dw_l Y k) (F := fun j => .int (dw_i Y k j)) hfit i v hv
        have hcc : (vp_cell (tw_zC z a) (dw_l Y k, .inl (dw_i Y k))).cls = tw_zC z a := rfl
        rw [hcc]
        simpa [State.fitsSlot, State.slotType?, hk', hkind] using hv1)
      (g := F0 (tw_zm z) pc ls (.ref (b + k) :: st)) rfl (by rw [tw_hml X hl]) rfl (by rw [X.2.1]; exact d) hfr (by show 2 * 0 + _ + 14 ≤ _; omega) hc1 (by rw [hsz]; exact hc2) (hloader := Vm.clonesLoader_of_array hkS hkindS)
    rw [hsz] at X'
    generalize hH1 : H.push (vp_cell (tw_zC z a) (dw_l Y k, .inl (dw_i Y k))) = H1
    have z1 : H1.size = H.size + 1 := by rw [← hH1, Array.size_push]
    have e1 : H1[H.size]? = some (vp_cell (tw_zC z a) (dw_l Y k, .inl (dw_i Y k))) := by rw [← hH1, Array.getElem?_push_size]
    have o1 : ∀ q : Nat, q < H.size → H1[q]? = H[q]? := fun q hq => by rw [← hH1, Array.getElem?_push, if_neg (Nat.ne_of_lt hq)]
    rw [hz] at e1
    obtain ⟨t, b1, b2⟩ := kk an _ (hE1 an ha) H1 locs ls (dw_W_nw (D := tw_zD z) (C := tw_zC z) hkd hP hz z1 o1 (by rw [hE0 _ an dw_nw_k, dw_nw_i, dw_nw_l]; exact e1)) (dw_SSpush hS z1 o1) hl ((T.setVm vm').pushCell (vp_cell (tw_zC z a) (dw_l Y k, .inl (dw_i Y k)))) (by rw [← hH1, ← hT]; rfl) X'
    refine ⟨t, step t ?_, b2⟩
    rw [hT, hz]
    exact b1)
/-- super.m(..) -/
theorem e_callU {z : tw_Z} {b : Nat} {cc : ByteArray} {own : String} {nL pc : Nat} {Y : dw_S} {L : List (Nat × Value)} {st : List Value} {ix : Nat} {st0 : List Value} {ci k mL n N : Nat} {y : MethodName} {cy : ByteArray} {ret : Option FieldType} {rm : Room} {Cn : String} {T : u_T} {fs : List Value} {As : List Value} {ρ1 : Type} {val1 : ρ1 → Option Value} {st1 : ρ1 → dw_S} {P : (ρ1 → Prop) → Prop} {K : ρ1 → Prop} (X : tw_X z cc own nL) (hA : dw_AK (tw_zB z) (tw_zS z) (tw_zs z)) (hb : tw_zB z ≤ b) (hD : (tw_zD z).2 = []) {c s MC MS : Nat} (hR0 : tw_zcells z = c ∧ tw_zslots z = s) (hRM : (tw_zR z).cells = MC ∧ (tw_zR z).slots = MS) (d : decode cc pc = .ok (.invokespecial ix, 3)) (hM : ∀ Q, P Q → dw_Met (tw_zl z) b (tw_zD z) (tw_zC z) (tw_zS z) y cy mL ret rm (.ref (b + k) :: As) Y val1 st1 Q) (hy : tw_My y cy mL ret n) (hv : (Cond.instanceMethod y) ∈ lw_tbl) (hsm : (Cond.sameMethod y.cls y.cls y.name y.desc) ∈ lw_tbl) (hsu : (Cond.superclass own y.cls) ∈ lw_tbl) (hno : y.name ≠ "<init>") (i : Nat) (hi : lw_tbl[i]? = some (.methodLink own ix y)) (hci : ci ≠ 99) (hc : vwCl[ci]? = some (Cn, T, N)) (hE0 : dw_k Y k = ci → dw_E b (tw_zC z) Y k = .inr (ci, fs)) (hn : As.length = n) (hR : rm.frames + 1 ≤ (tw_zR z).frames ∧ 8 + (mL + 11) + rm.locals ≤ (tw_zR z).locals) (hst : (st.map fun v => v.category).sum ≤ 8) (hs0 : st0 = As.reverse ++ .ref (b + k) :: st) (kk : ∀ r, dw_Rf (tw_cz z (c + rm.cells) (s + rm.slots)) b (K r) (st1 r) (pc + 3) L ((val1 r).toList ++ st)) : dw_Rf z b (pw_ck (dw_is Y k ci ∧ c + rm.cells ≤ MC ∧ s + rm.slots ≤ MS) (P K)) Y pc L st0 := e_ck (fun hk hE => by
  subst hs0
  obtain ⟨rfl, rfl⟩ := hR0
  obtain ⟨rfl, rfl⟩ := hRM
  have hcw := tw_CB X hy i hi (rm := rm) (mL := mL) ⟨rfl, rfl, hR.1, hR.2⟩
  refine e_run hb (fun H locs ls hP hS hl => va_runSU (As := As) (rest := st) (C := Cn) (cC := (tw_zD z).1.1 ci) (hat := (X.K.1 ci _ hc).2) (tw_fix X) (hM K hE) ⟨⟨rfl, rfl, hR.1, hR.2, hcw.2.2.2.2.1, hcw.2.2.2.2.2.1⟩, X.ws i hi rfl, tw_wd X hsm rfl, tw_wd X hsu rfl, tw_wd X hv rfl, hcw.2.2.2.2.2.2.2.1, hcw.2.2.2.2.2.2.1, hno, hcw.2.2.2.2.2.2.2.2.2.1⟩ ⟨dw_blind, dw_W2 X hk.1 hci hc hE0 hP, (dw_preS X hA hb hD hP hS).2⟩ rfl hn (hl.1.trans X.2.2.2.2.2.2) rfl (lv_room hst) d hk.2) kk trivial)
