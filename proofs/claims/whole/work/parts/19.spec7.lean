theorem srV_b {s : Int → Int} (hI : InvK 0 s) {r n : Int} (r0 : 0 ≤ r) (r1 : r < s 1) (n0 : 0 ≤ n) (n1 : s 0 + n ≤ 20000) {j : Nat} (hj : j < 24) : srV s r n j ≤ 21000000 := by
  have hn := hI.num
  unfold srV
  by_cases hc : who s (j : Int) < 0 ∨ who s (j : Int) = r
  · rw [if_pos hc]
    have := goneN_b (hI.cellw (r := r) (c := (j : Int)) r0 r1 (by omega) hc) (r := r) (n := n) r0 (by rw [up_n (by omega)]; exact r1) n0 (by rw [up_n (by omega)]; exact n1)
    omega
  · rw [if_neg hc]; omega
