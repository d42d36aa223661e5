theorem dw_u70 : lw_tbl[70]? = some (Jvm.Cond.classLink "TreasureWalkLaw" (14 : Nat) "TreasureWalk") := by decide +kernel
theorem dw_u71 : lw_tbl[71]? = some (Jvm.Cond.instantiable "TreasureWalk" (7 : Nat)) := by decide +kernel
theorem dw_u36 : lw_tbl[36]? = some (Jvm.Cond.initialized "TreasureWalk") := by decide +kernel
theorem dw_u72 : lw_tbl[72]? = some (Jvm.Cond.methodLink "TreasureWalkLaw" (268 : Nat) ({ cls := "TreasureWalk", name := "<init>", desc := "()V" } : Jvm.MethodName)) := by decide +kernel
theorem dw_u73 : lw_tbl[73]? = some (Jvm.Cond.instanceMethod ({ cls := "TreasureWalk", name := "<init>", desc := "()V" } : Jvm.MethodName)) := by decide +kernel
/-! THE LAW'S HEAD: no world yet; each turn makes one behind all that stands -/
def dw_Rh (z : tw_Z) (pc : Nat) (L : List (Nat × Value)) (st : List Value) : Prop :=
  ∀ (H : Heap) (locs : List Loc) (ls : Array Slot), tw_SS z H locs → lv_has ls (tw_znL z) L → tw_W z H locs (F0 (tw_zm z) pc ls st)
theorem h_of {z : tw_Z} {b pc : Nat} {E : Prop} {Y : dw_S} {L : List (Nat × Value)} {st : List Value} (h : E → dw_Rh z pc L st) : dw_Rf z b E Y pc L st := fun hE H locs ls _ hS hl => h hE H locs ls hS hl
/-- one cell at b, the last of all -/
def dw_Rn (z : tw_Z) (b : Nat) (F : Nat → va_E) (pc : Nat) (L : List (Nat × Value)) (st : List Value) : Prop :=
  ∀ (H : Heap) (locs : List Loc) (ls : Array Slot), va_P (tw_zD z).1 vwCl (tw_wl b F 1) H → H.size = b + 1 → tw_SS z H locs → lv_has ls (tw_znL z) L → tw_W z H locs (F0 (tw_zm z) pc ls st)
def dw_Y0 (σ : tw_Sg) : dw_S := (σ, 442, fun _ => (99, 0), fun _ _ => 0, fun _ _ => none)
theorem dw_Y0_ws {b : Nat} {C : Nat → ClassId} {σ : tw_Sg} : dw_wl b C (dw_Y0 σ) = [] := by
  unfold dw_wl dw_L
  have h : (List.range (dw_n (dw_Y0 σ))).filter (fun k => decide (442 ≤ k ∧ dw_k (dw_Y0 σ) k ≠ 99)) = [] := by
    rw [List.filter_eq_nil_iff]
    intro k _
    rw [decide_eq_true_iff]
    exact fun h => h.2 rfl
  rw [h]
  rfl
theorem dw_Y0_W {b : Nat} {D : tw_G} {C : Nat → ClassId} {σ : tw_Sg} {F : Nat → va_E} {H : Heap} (h : va_P D.1 vwCl (tw_wl b F 442) H) (hF : ∀ q, q < 442 → F q = tw_E b C σ q) : dw_W b D C (dw_Y0 σ) H := by
  have h1 : va_P D.1 vwCl (tw_wl b (tw_E b C σ) 442) H := tw_Pcong h hF
  have h2 : b + 441 < H.size := (h1 441 _ (tw_wl_get (by omega))).lt
  refine ⟨?_, ?_, Nat.le_refl 442, fun _ _ => rfl⟩
  · unfold dw_ws
    rw [dw_Y0_ws, List.append_nil]
    exact h1
  · show b + 442 ≤ H.size
    omega
theorem h_ca (c : Nat) : c + 1 + 441 = c + 442 := by omega
theorem h_sa (s : Nat) : s + 7 + 11503 = s + 11510 := by omega
section HD
variable {z : tw_Z} {pc c s : Nat} {L : List (Nat × Value)} {st : List Value}
theorem h_new (X : tw_X z cL_law "TreasureWalkLaw" 22) (hB : tw_zB z ≤ (tw_zs z).heap.size) (d : decode cL_law pc = .ok (.new 14, 3)) (hc : c + 1 ≤ (tw_zR z).cells) (hs : s + 7 ≤ (tw_zR z).slots)
    (kk : ∀ b, tw_zB z ≤ b → dw_Rn (tw_cz z (c + 1) (s + 7)) b (va_up (fun _ => .inr (0, [])) 0 (.inr (11, [.null, .null, .null, .null, .null, .null, .int 0]))) (pc + 3) L (.ref (b + 0) :: st)) : dw_Rh (tw_cz z c s) pc L st := by
  intro H locs ls hS hl
  have hKn := X.2.2.2.2.2.1.2.1.1 11 _ rfl
  refine W.newcK X.1 X.2.1 X.ow (X.ws 70 dw_u70 rfl) (tw_wd X (List.mem_of_getElem? dw_u71) rfl) (tw_wd X (List.mem_of_getElem? dw_u36) rfl) rfl d hc hs hKn.2.1 rfl fun H1 kC hkC e1 z1 o1 => ?_
  exact kk H.size (Nat.le_trans hB hS.1) H1 locs ls (tw_Ppush (F := fun _ => .inr (0, [])) (mm := 0) (B := H.size) (fun k q h => by simp [tw_wl] at h) rfl o1 ⟨_, rfl, (u_born (s := tw_zs z) (args := #[]) tyX11 (X.2.2.2.2.2.1.1.all) tw_in11 hKn hkC e1 tyX11_ok).to tw_df11⟩) z1 (tw_SSpush hS rfl z1 o1) hl
theorem n_dup {F : Nat → va_E} {b : Nat} {v : Value} (X : tw_X z cL_law "TreasureWalkLaw" 22) (d : decode cL_law pc = .ok (.dup, 1)) (hv : v.category = 1) (kk : dw_Rn (tw_cz z c s) b F (pc + 1) L (v :: v :: st)) : dw_Rn (tw_cz z c s) b F pc L (v :: st) := fun H locs ls hP hz hS hl => lv_dup X.1 X.2.1 d hv (kk H locs ls hP hz hS hl)
theorem n_init {F : Nat → va_E} {b n c' s' : Nat} {σ1 : tw_Sg} (X : tw_X z cL_law "TreasureWalkLaw" 22) (hT : tw_AK (tw_zs z)) (hb : tw_zB z ≤ b) (hD : (tw_zD z).2 = []) (hb1 : tx_P_X2_begin n 1 (1 : Int32) (1 : Int32) tw_s0 = some σ1) (h1 : ∀ q, 33 ≤ q → q < 442 → σ1 q = fun _ => 0) (hF : F 0 = .inr (11, [.null, .null, .null, .null, .null, .null, .int 0])) (d : decode cL_law pc = .ok (.invokespecial 268, 3)) (hf : 6 ≤ (tw_zR z).frames) (hlo : 125 ≤ (tw_zR z).locals) (ec : tw_zcells z + 441 = c') (es : tw_zslots z + 11503 = s') (hc : c' ≤ (tw_zR z).cells) (hs : s' ≤ (tw_zR z).slots) (hst : (st.map fun v => v.category).sum ≤ 8)
    (kk : dw_Rf (tw_cz z c' s') b True (dw_Y0 (tw_up (tw_up σ1 1 10 33) 0 6 (-1))) (pc + 3) L st) : dw_Rn z b F pc L (.ref (b + 0) :: st) := by
  subst ec es
  intro H locs ls hP hz hS hl T hT0 XT
  have hM := tw_i_X11 (l := tw_zl z) (B := b) (D := tw_zD z) (C := tw_zC z) (S := tw_zS z) (F := F) hb1 h1 hD hF
  have hp : PreS (tw_zs z) H (tw_CPre b (tw_zD z) (tw_zC z) (tw_zS z) [.ref (b + 0)] F 1) [.ref (b + 0)] := ⟨tw_CPre_blind, fun U hU hW => ⟨rfl, ⟨by rw [hU]; exact hP, by rw [hU]; exact hz⟩, by
    have h := dw_EVc (W := []) X.2.2.2.2.2.1 hb ⟨fun _ _ _ _ h => by simp at h, fun _ _ h => by simp at h⟩ hS hU hW
    rw [← hD] at h
    exact h, hT.warm hW⟩⟩
  obtain ⟨v, st₀, t, T', Lc, h0, X', hL, e1, e2, ⟨⟨hv1, hp1⟩, hz1, hk⟩, st1⟩ := va_runI (As := []) (rest := st) (tw_fix X) hM ⟨tw_CB X tw_y_X11_init 72 dw_u72 ⟨rfl, rfl, hf, hlo⟩, rfl, tw_wd X (List.mem_of_getElem? dw_u73) rfl⟩ hp (g := F0 (tw_zm z) pc ls (([] : List Value).reverse ++ .ref (b + 0) :: st)) rfl rfl (hl.1.trans X.2.2.2.2.2.2) rfl (lv_room hst) d ⟨hc, hs⟩ T hT0 XT
  cases hv1
  rw [h0] at hz1 hk
  have hS' : tw_SS (tw_cz z (tw_zcells z + 441) (tw_zslots z + 11503)) T'.heap (locs ++ Lc) := ⟨Nat.le_trans hS.1 (by rw [e1]; exact hz1), fun q h1 h2 => by rw [e1, hk q (Nat.lt_of_lt_of_le h1 hS.1) (fun h => h2 (Nat.le_trans hb h))]; exact hS.2.1 q h1 h2, fun q hq => by
      rcases List.mem_append.mp hq with h | h
      · exact hS.2.2 q h
      · exact Nat.le_trans hb (hL q h)⟩
  have hP' := dw_Y0_W (b := b) (D := tw_zD z) (C := tw_zC z) (σ := tw_up (tw_up σ1 1 10 33) 0 6 (-1)) (F := tw_fin (tw_E b (tw_zC z) (tw_up (tw_up σ1 1 10 33) 0 6 (-1))) F 0 442) (H := T'.heap) (by rw [e1]; exact hp1) (fun q hq => if_pos ⟨Nat.zero_le q, hq⟩)
  obtain ⟨t2, a1, b1⟩ := kk trivial T'.heap (locs ++ Lc) ls hP' hS' hl T' rfl X'
  exact ⟨t2, st1 t2 a1, b1⟩
theorem h_turn {n : Nat} {σ1 : tw_Sg} (X : tw_X z cL_law "TreasureWalkLaw" 22) (hT : tw_AK (tw_zs z)) (hB : tw_zB z ≤ (tw_zs z).heap.size) (hD : (tw_zD z).2 = []) (hb1 : tx_P_X2_begin n 1 (1 : Int32) (1 : Int32) tw_s0 = some σ1) (h1 : ∀ q, 33 ≤ q → q < 442 → σ1 q = fun _ => 0) (hfr : (tw_zR z).frames = 2048) (hlo : (tw_zR z).locals = 84000) (hc : c + 442 ≤ (tw_zR z).cells) (hs : s + 11510 ≤ (tw_zR z).slots)
    (kk : ∀ b, tw_zB z ≤ b → dw_Rf (tw_cz z (c + 442) (s + 11510)) b True (dw_Y0 (tw_up (tw_up σ1 1 10 33) 0 6 (-1))) 26 L (.ref (b + 0) :: st)) (hst : (st.map fun v => v.category).sum ≤ 6) : dw_Rh (tw_cz z c s) 19 L st := by
  refine h_new X hB dL_law_19 (by omega) (by omega) (fun b hb => ?_)
  refine n_dup X dL_law_22 rfl ?_
  refine n_init (z := tw_cz z (c + 1) (s + 7)) (c' := c + 442) (s' := s + 11510) X hT hb hD hb1 h1 (va_up_self _ _ _) dL_law_23 (tw_le hfr rfl) (tw_le hlo rfl) (h_ca c) (h_sa s) hc hs (by simp only [List.map_cons, List.sum_cons]; show 1 + _ ≤ 8; omega) ?_
  exact kk b hb
end HD
/-- the law as a predicate: what must hold so that it answers true -/
def dw_head (n Ln : Nat) (xs : Nat → Int32) (σ : tw_Sg) : Nat → Int32 → Int32 → Nat → Nat → Prop
  | 0, _, _, _, _ => False
  | m + 1, ok, k, c, s => if Int32.ofNat Ln ≤ k ∨ 2 ≤ k ∨ ok = 0 then ok = 1 ∧ c ≤ dw_rc ∧ s ≤ dw_rs else (c + 442 ≤ dw_rc ∧ s + 11510 ≤ dw_rs) ∧ dw_P_L_lawB n Ln xs ok k (c + 442) (s + 11510) (dw_Y0 σ) (fun a => dw_head n Ln xs σ m a.1 a.2.1 a.2.2.2.1 a.2.2.2.2)
theorem dw_law {z : tw_Z} {bs n Ln : Nat} {xs : Nat → Int32} {σ1 : tw_Sg} (X : tw_X z cL_law "TreasureWalkLaw" 22) (hA : dw_AK (tw_zB z) (tw_zS z) (tw_zs z)) (hT : tw_AK (tw_zs z)) (hB : tw_zB z ≤ (tw_zs z).heap.size) (hD : (tw_zD z).2 = []) (hst : (tw_zl z).stackTraces = false) (hfr : (tw_zR z).frames = 2048) (hlo : (tw_zR z).locals = 84000) (eMC : (tw_zR z).cells = dw_rc) (eMS : (tw_zR z).slots = dw_rs) (hX : va_X bs Ln xs (tw_zs z) (tw_zs z).heap) (hbl : bs < (tw_zs z).heap.size) (hbB : bs < tw_zB z) (hb1 : tx_P_X2_begin n 1 (1 : Int32) (1 : Int32) tw_s0 = some σ1) (h1 : ∀ q, 33 ≤ q → q < 442 → σ1 q = fun _ => 0)
    (hend : ∀ k n, k ≤ (tw_zR z).cells → n ≤ (tw_zR z).slots → ∀ L, dw_Rh (tw_cz z k n) 908 L [.int 1]) : ∀ (m : Nat) (ok k : Int32) (c s : Nat), dw_head n Ln xs (tw_up (tw_up σ1 1 10 33) 0 6 (-1)) m ok k c s → dw_Rh (tw_cz z c s) 4 [(0, .ref bs), (1, .int ok), (2, .int k)] [] := by
  intro m
  induction m with
  | zero => intro ok k c s h; exact h.elim
  | succ m ih =>
    intro ok k c s h
    have he : (ok = 1 ∧ c ≤ dw_rc ∧ s ≤ dw_rs) → dw_Rh (tw_cz z c s) 907 [(0, .ref bs), (1, .int ok), (2, .int k)] [] := by
      rintro ⟨rfl, h2, h3⟩ H locs ls hS hl
      refine lv_iload_n X.1 X.2.1 dL_law_907 rfl (tw_hl hl 1 rfl) ?_
      exact hend c s (by rw [eMC]; exact h2) (by rw [eMS]; exact h3) _ H locs ls hS hl
    unfold dw_head at h
    intro H locs ls hS hl
    refine lv_iload_n X.1 X.2.1 dL_law_4 rfl (tw_hl hl 2 rfl) ?_
    refine lv_aload_n X.1 X.2.1 dL_law_5 rfl (tw_hl hl 0 rfl) ?_
    refine va_slen X.1 X.2.1 hX hbl (Nat.not_le.mpr hbB) hS dL_law_6 ?_
    refine lv_icmp_ge X.1 X.2.1 dL_law_7 (tgt := 907) (by decide) (fun q => ?_) (fun q => ?_)
    · rw [if_pos (Or.inl q)] at h
      exact he h H locs ls hS hl
    refine lv_iload_n X.1 X.2.1 dL_law_10 rfl (tw_hl hl 2 rfl) ?_
    refine lv_iconst X.1 X.2.1 dL_law_11 (v := (2 : Int32)) (by decide) ?_
    refine lv_icmp_ge X.1 X.2.1 dL_law_12 (tgt := 907) (by decide) (fun q1 => ?_) (fun q1 => ?_)
    · rw [if_pos (Or.inr (Or.inl q1))] at h
      exact he h H locs ls hS hl
    refine lv_iload_n X.1 X.2.1 dL_law_15 rfl (tw_hl hl 1 rfl) ?_
    refine lv_if_eq X.1 X.2.1 dL_law_16 (tgt := 907) (by decide) (fun q2 => ?_) (fun q2 => ?_)
    · rw [if_pos (Or.inr (Or.inr q2))] at h
      exact he h H locs ls hS hl
    rw [if_neg (by rintro (g | g | g); exact q g; exact q1 g; exact q2 g)] at h
    obtain ⟨⟨h2, h3⟩, h4⟩ := h
    refine h_turn X hT hB hD hb1 h1 hfr hlo (by rw [eMC]; exact h2) (by rw [eMS]; exact h3) (fun b hb => ?_) (by decide) H locs ls hS hl
    exact fun _ => dw_lawB (n := n) (Ln := Ln) (xs := xs) X hA hb hD hst hfr hlo eMC eMS hX hbl hbB (fun a => h_of (ih a.1 a.2.1 a.2.2.2.1 a.2.2.2.2)) h4
