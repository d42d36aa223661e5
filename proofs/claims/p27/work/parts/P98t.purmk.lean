/-! the reference: land, marks, the team, bends, starts -/
section RMK
variable {σ σ0 : tw_Sg} {B : Nat → Nat} {L p n w h q : Nat} {E : Option (Int32 × Nat)} {A A' : Nat → Int32}
theorem pu_SR_any {e : Int32 × Nat} {p' : Nat} (H : pu_SR B L σ0 A (some e) p σ) : pu_SR B L σ0 A' (some e) p' σ := ⟨pu_rL_any H.1, H.2.1, fun z => (by cases z), H.2.2.2⟩
theorem pu_SR_c (H : pu_SR B L σ0 A E p σ) {E' : Option (Int32 × Nat)} (e : E' = E) : pu_SR B L σ0 A E' p σ := by rw [e]; exact H
theorem pu_upd_comm {f : Nat → Int32} {i j : Nat} {x y : Int32} (hij : i ≠ j) : upd (upd f i x) j y = upd (upd f j y) i x := by
  funext k
  by_cases e1 : k = j
  · subst e1; rw [pu_upd_s, pu_upd_n (fun e => hij e.symm), pu_upd_s]
  · rw [pu_upd_n e1]
    by_cases e2 : k = i
    · subst e2; rw [pu_upd_s, pu_upd_s]
    · rw [pu_upd_n e2, pu_upd_n e2, pu_upd_n e1]
theorem pu_SR_put {i : Nat} {x : Int32} (H : pu_SR B L σ0 A none p σ) (hi : i < 1028) (h4 : i ≠ 4) : pu_SR B L σ0 (upd A i x) none p (tw_up σ 445 i x) := pu_SR_445 H hi (pu_upd_comm h4) (pu_upd_n (fun e => h4 e.symm))
end RMK
