/-! THE LAW'S LOOP, all its turns: c cells and s slots spent at the head. -/
def tw_cz (z : tw_Z) (c s : Nat) : tw_Z := (tw_zp z, tw_zl z, tw_ze z, tw_zR z, tw_zs z, tw_zm z, tw_zargs z, tw_zbelow z, tw_zmeth z, tw_zc z, tw_zB z, tw_zD z, tw_zC z, tw_zS z, tw_znL z, c, s, tw_zQ z)
def tw_lawL (n Ln : Nat) (xs : Nat → Int32) (m : Nat) (a0 : Int32 × tw_Sg) : Option Int32 := tw_lp (fun kk a => tw_lawB n Ln xs kk a) m a0
theorem tw_law_all {z : tw_Z} {n Ln b : Nat} {xs : Nat → Int32} (X : tw_X z cL_law "TreasureWalkLaw" 9) (hst : (tw_zl z).stackTraces = false) (hfr : (tw_zR z).frames = 14) (hlo : (tw_zR z).locals = 574) (hX : va_X b Ln xs (tw_zs z) (tw_zs z).heap) (hbl : b < (tw_zs z).heap.size) (hbB : b < tw_zB z) (hend : ∀ c s, c ≤ (tw_zR z).cells → s ≤ (tw_zR z).slots → ∀ σ L, tw_Rf (tw_cz z c s) (1 : Int32) (some (1 : Int32)) σ 1432 L [.int 1]) :
    ∀ (m c s : Nat), c + m ≤ (tw_zR z).cells → s + 6 * m ≤ (tw_zR z).slots → ∀ a0 : Int32 × tw_Sg, tw_Rf (tw_cz z c s) (1 : Int32) (tw_lawL n Ln xs m a0) a0.2 23 [(4, .int a0.1), (3, .ref (tw_zB z + 1036)), (2, .ref (tw_zB z + 442)), (1, .ref (tw_zB z + 0)), (0, .ref b)] []
  | 0, c, s, _, _, a0 => fun hE => by cases hE
  | m + 1, c, s, hc, hs, a0 => by
    have X' : tw_X (tw_cz z c s) cL_law "TreasureWalkLaw" 9 := X
    have ih := tw_law_all (n := n) X hst hfr hlo hX hbl hbB hend m (c + 1) (s + 6) (by omega) (by omega)
    have h1 : c ≤ (tw_zR z).cells := by omega
    have h2 : s ≤ (tw_zR z).slots := by omega
    have h3 : c + 1 ≤ (tw_zR z).cells := by omega
    have h4 : s + 6 ≤ (tw_zR z).slots := by omega
    exact tw_law (n := n) X' hst hfr hlo ⟨h1, h2⟩ ⟨h3, h4⟩ hX hbl hbB (hend c s (by omega) (by omega)) _ ih a0
