/-! a bend as a step -/
section DQA4
variable {T : List Nat} {A : Nat → Int32} {w h : Nat} {D : Nat → Nat}
theorem dq_PR_bend {r : Bool} {t : Nat} (H : dq_PR T w h A) (W : pu_AW A w h) (hB : ∀ i, (T ++ (dq_wd 1 ++ (dq_nums D 4 ++ (dq_wd (if r then 31 else 30) ++ ([32, 48 + t] ++ [59]))))).getD i 0 < 256) (hx : D 0 ≤ D 2) (hx1 : D 2 < w) (hy : D 1 ≤ D 3) (hy1 : D 3 < h) (hd : D 2 < 10 ∧ D 3 < 10) (ht : 1 ≤ t ∧ t ≤ 3) (h8 : pu_v A 2 ≠ 8) : dq_PR (T ++ (dq_wd 1 ++ (dq_nums D 4 ++ (dq_wd (if r then 31 else 30) ++ ([32, 48 + t] ++ [59]))))) w h (pu_aB A (D 0) (D 1) (D 2) (D 3) (if r then Int32.ofNat t else -Int32.ofNat t)) ∧ pu_AW (pu_aB A (D 0) (D 1) (D 2) (D 3) (if r then Int32.ofNat t else -Int32.ofNat t)) w h := by
  have l30 : (dq_wd 30).length = 5 := by decide +kernel
  have l31 : (dq_wd 31).length = 6 := by decide +kernel
  refine dq_PRA H W hB (l := 20 + (if r then 1 else 0)) ?_ (by omega) (by rw [dq_hd0' 1 _ (by decide +kernel)]; decide +kernel) (fun _ _ hat hL hn => dq_rdBend hat hL hn hx hx1 hy hy1 hd ht h8)
  have l1 : (dq_wd 1).length = 4 := by decide +kernel
  rw [List.length_append, List.length_append, List.length_append, dq_nums_len, l1]
  cases r
  · show 4 + (2 * 4 + ((dq_wd 30).length + (2 + 1))) = 20 + 0
    rw [l30]
  · show 4 + (2 * 4 + ((dq_wd 31).length + (2 + 1))) = 20 + 1
    rw [l31]
end DQA4
