theorem wkT_go {b at1 n : Int} {s : Int → Int} {f : Nat} (h : ¬ at1 = b) (o : opn s (bh at1)) (w : who s (bh at1) < 0) : wkT b (f + 1) s at1 n = wkT b f (sea s) (bh at1) (n + 1) := by
  simp only [wkT]
  rw [if_neg h, if_pos ⟨o, w⟩]
theorem wkT_st {b at1 n : Int} {s : Int → Int} {f : Nat} (h : ¬ at1 = b) (o : ¬ (opn s (bh at1) ∧ who s (bh at1) < 0)) : wkT b (f + 1) s at1 n = wkT b f (sea s) at1 (n + 1) := by
  simp only [wkT]
  rw [if_neg h, if_neg o]
theorem wkT_hit (b : Int) (s : Int → Int) (n : Int) : ∀ f, wkT b f s b n = n
  | 0 => by simp only [wkT]; rw [if_pos trivial]
  | f + 1 => by simp only [wkT]; rw [if_pos trivial]
theorem wkT_out {b at1 : Int} {s : Int → Int} {n : Int} (h : ¬ at1 = b) : wkT b 0 s at1 n = -1 := by simp only [wkT]; rw [if_neg h]
def fFre (s : Int → Int) : Int := if frS s < 0 then 4 else 0
theorem srV_b {s : Int → Int} (hI : InvK 0 s) {r n : Int} (r0 : 0 ≤ r) (r1 : r < s 1) (n0 : 0 ≤ n) (n1 : s 0 + n ≤ 20000) {j : Nat} (hj : j < 24) : srV s r n j ≤ 21000000 := by
  have hn := hI.num
  unfold srV
  by_cases hc : who s (j : Int) < 0 ∨ who s (j : Int) = r
  · rw [if_pos hc]
    have := goneN_b (hI.cellw (r := r) (c := (j : Int)) r0 r1 (by omega) hc) (r := r) (n := n) r0 (by rw [up_n (by omega)]; exact r1) n0 (by rw [up_n (by omega)]; exact n1)
    omega
  · rw [if_neg hc]; omega
