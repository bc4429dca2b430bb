theorem who_eq {k : Int} {s : Int → Int} (hI : InvK k s) {r c : Int} (h0 : 0 ≤ r) (h1 : r < s 1) (e : s (61 + 5 * r + 1) = c) : who s c = r := by
  have hb := who_b c hI.num
  have h2 : ¬ who s c < 0 := fun z => (who_neg hI.num.1).mp z r h0 h1 e
  have h3 := who_pos (s := s) (c := c) (by omega)
  exact hI.dis _ _ (by omega) hb.2 h0 h1 (by rw [h3, e])
theorem who_no {s : Int → Int} {c : Int} (hn : 0 ≤ s 1) (h : ∀ q : Int, 0 ≤ q → q < s 1 → s (61 + 5 * q + 1) ≠ c) : who s c = -1 := by
  have hb := whoT_b s c (s 1).toNat
  have := (who_neg hn).mpr h
  unfold who at *
  omega
theorem lvT_T (s : Int → Int) {a m n p : Int} (h : a ≤ m) (hn : n = m + 5) (hp : p = m + 1) : up (lvT s a m) m (lvT s a m n) = lvT s a p := by subst hn; subst hp; exact lvT_S s h
def shT (s : Int → Int) (k : Int) : Int32 := if opn s k then iI 0 else bit k
theorem or_0 (x : Int32) : x ||| iI 0 = x := by rw [iI_0]; exact Int32.or_zero
abbrev rm_X4_isBetween : Room := { frames := 0, cells := 0, slots := 0, locals := 0 }
set_option maxRecDepth 100000 in
set_option maxHeartbeats 4000000 in
theorem c_X4_isBetween (l : Launch) (g : Gd) (c : Int) (lo : Int) (hi : Int) (h1 : IR c) (h2 : IR lo) (h3 : IR hi) : Met l yX4_isBetween (wsOf yX4_isBetween cX4_isBetween 3 (some .boolean)) rm_X4_isBetween (PX g (fun _ => True) [.int (iI c), .int (iI lo), .int (iI hi)]) (vp_Si (fun r9 => r9 = iI (bI (lo ≤ c ∧ c ≤ hi)))) 0 0 (fun _ => False) := by
  refine me (g := g) (by decide) rfl ?_
  intro pq eq s mq below meth cq C hnm hB ls hl
  obtain ⟨hx, hb, hr, hml, hown, hts, hlocks, hK⟩ := C
  have hown : s.vm.findClass RX4 = some mq.cls := hown
  have hl : lv_has ls 3 [(0, .int (iI c)), (1, .int (iI lo)), (2, .int (iI hi))] := hl
  have q1 := h1.1
  have q2 := h1.2
  have q3 := h2.1
  have q4 := h2.2
  have q5 := h3.1
  have q6 := h3.2
  refine lv_iload_n hx hb dX4_isBetween_0 rfl (lv_at hl 0 rfl) ?_
  refine lv_iload_n hx hb dX4_isBetween_1 rfl (lv_at hl 1 rfl) ?_
  refine xi_c_lt (tgt := 14) hx hb ⟨by omega, by omega⟩ ⟨by omega, by omega⟩ dX4_isBetween_2 (by decide) (fun z1 => ?_) (fun z1 => ?_)
  · refine lv_iconst (v := iI (0)) hx hb dX4_isBetween_14 (by decide) ?_
    exact W.zret hx hb hr (by decide) (fun t ht hW => ⟨_, rfl, by rw [bI_f (by omega)], ht⟩) (fun q h => by cases h) dX4_isBetween_15
  · refine lv_iload_n hx hb dX4_isBetween_5 rfl (lv_at hl 0 rfl) ?_
    refine lv_iload_n hx hb dX4_isBetween_6 rfl (lv_at hl 2 rfl) ?_
    refine xi_c_gt (tgt := 14) hx hb ⟨by omega, by omega⟩ ⟨by omega, by omega⟩ dX4_isBetween_7 (by decide) (fun z2 => ?_) (fun z2 => ?_)
    · refine lv_iconst (v := iI (0)) hx hb dX4_isBetween_14 (by decide) ?_
      exact W.zret hx hb hr (by decide) (fun t ht hW => ⟨_, rfl, by rw [bI_f (by omega)], ht⟩) (fun q h => by cases h) dX4_isBetween_15
    · refine lv_iconst (v := iI (1)) hx hb dX4_isBetween_10 (by decide) ?_
      refine lv_goto (tgt := 15) hx hb dX4_isBetween_11 (by decide) ?_
      exact W.zret hx hb hr (by decide) (fun t ht hW => ⟨_, rfl, by rw [bI_t (by omega)], ht⟩) (fun q h => by cases h) dX4_isBetween_15
abbrev rm_X4_isCell : Room := { frames := 1, cells := 0, slots := 0, locals := 22 }
set_option maxRecDepth 100000 in
set_option maxHeartbeats 4000000 in
theorem c_X4_isCell (l : Launch) (g : Gd) (c : Int) (h1 : IR c) : Met l yX4_isCell (wsOf yX4_isCell cX4_isCell 1 (some .boolean)) rm_X4_isCell (PX g (fun _ => True) [.int (iI c)]) (vp_Si (fun r9 => r9 = iI (bI (0 ≤ c ∧ c ≤ 23)))) 0 0 (fun _ => False) := by
  refine me (g := g) (by decide) rfl ?_
  intro pq eq s mq below meth cq C hnm hB ls hl
  obtain ⟨hx, hb, hr, hml, hown, hts, hlocks, hK⟩ := C
  have hown : s.vm.findClass RX4 = some mq.cls := hown
  have hl : lv_has ls 1 [(0, .int (iI c))] := hl
  have q1 := h1.1
  have q2 := h1.2
  refine lv_iload_n hx hb dX4_isCell_0 rfl (lv_at hl 0 rfl) ?_
  refine lv_iconst (v := iI (0)) hx hb dX4_isCell_1 (by decide) ?_
  refine lv_bipush (v := iI (23)) hx hb dX4_isCell_2 (by decide) ?_
  refine xu_b (P := 0 ≤ c ∧ c ≤ 23) (rS (rest := []) hx hb hml hown hts hK hl (c_X4_isBetween l g c 0 23 (show IR c from ⟨by omega, by omega⟩) (show IR 0 from ⟨by omega, by omega⟩) (show IR 23 from ⟨by omega, by omega⟩)) lk_X4_99 trivial rfl rfl rfl (Rm.of rfl) rfl rfl dX4_isCell_4) (fun z1 => ?_) (fun z1 => ?_)
  · exact W.zret hx hb hr (by decide) (fun t ht hW => ⟨_, rfl, by rw [bI_t (by omega)], ht⟩) (fun q h => by cases h) dX4_isCell_7
  · exact W.zret hx hb hr (by decide) (fun t ht hW => ⟨_, rfl, by rw [bI_f (by omega)], ht⟩) (fun q h => by cases h) dX4_isCell_7
abbrev rm_X4_isKind : Room := { frames := 1, cells := 0, slots := 0, locals := 22 }
set_option maxRecDepth 100000 in
set_option maxHeartbeats 4000000 in
theorem c_X4_isKind (l : Launch) (g : Gd) (c : Int) (h1 : IR c) : Met l yX4_isKind (wsOf yX4_isKind cX4_isKind 1 (some .boolean)) rm_X4_isKind (PX g (fun _ => True) [.int (iI c)]) (vp_Si (fun r9 => r9 = iI (bI (0 ≤ c ∧ c ≤ 5)))) 0 0 (fun _ => False) := by
  refine me (g := g) (by decide) rfl ?_
  intro pq eq s mq below meth cq C hnm hB ls hl
  obtain ⟨hx, hb, hr, hml, hown, hts, hlocks, hK⟩ := C
  have hown : s.vm.findClass RX4 = some mq.cls := hown
  have hl : lv_has ls 1 [(0, .int (iI c))] := hl
  have q1 := h1.1
  have q2 := h1.2
  refine lv_iload_n hx hb dX4_isKind_0 rfl (lv_at hl 0 rfl) ?_
  refine lv_iconst (v := iI (0)) hx hb dX4_isKind_1 (by decide) ?_
  refine lv_iconst (v := iI (5)) hx hb dX4_isKind_2 (by decide) ?_
  refine xu_b (P := 0 ≤ c ∧ c ≤ 5) (rS (rest := []) hx hb hml hown hts hK hl (c_X4_isBetween l g c 0 5 (show IR c from ⟨by omega, by omega⟩) (show IR 0 from ⟨by omega, by omega⟩) (show IR 5 from ⟨by omega, by omega⟩)) lk_X4_99 trivial rfl rfl rfl (Rm.of rfl) rfl rfl dX4_isKind_3) (fun z1 => ?_) (fun z1 => ?_)
  · exact W.zret hx hb hr (by decide) (fun t ht hW => ⟨_, rfl, by rw [bI_t (by omega)], ht⟩) (fun q h => by cases h) dX4_isKind_6
  · exact W.zret hx hb hr (by decide) (fun t ht hW => ⟨_, rfl, by rw [bI_f (by omega)], ht⟩) (fun q h => by cases h) dX4_isKind_6
abbrev rm_X4_mayBePass : Room := { frames := 1, cells := 0, slots := 0, locals := 22 }
set_option maxRecDepth 100000 in
set_option maxHeartbeats 4000000 in
theorem c_X4_mayBePass (l : Launch) (g : Gd) (p : Int) (o : Int) (h1 : IR p) (h2 : IR o) : Met l yX4_mayBePass (wsOf yX4_mayBePass cX4_mayBePass 2 (some .boolean)) rm_X4_mayBePass (PX g (fun _ => True) [.int (iI p), .int (iI o)]) (vp_Si (fun r9 => r9 = iI (bI (p = 0 ∨ (2 ≤ p ∧ p ≤ 9 ∧ 0 ≤ o ∧ o ≤ p))))) 0 0 (fun _ => False) := by
  refine me (g := g) (by decide) rfl ?_
  intro pq eq s mq below meth cq C hnm hB ls hl
  obtain ⟨hx, hb, hr, hml, hown, hts, hlocks, hK⟩ := C
  have hown : s.vm.findClass RX4 = some mq.cls := hown
  have hl : lv_has ls 2 [(0, .int (iI p)), (1, .int (iI o))] := hl
  have q1 := h1.1
  have q2 := h1.2
  have q3 := h2.1
  have q4 := h2.2
  refine lv_iload_n hx hb dX4_mayBePass_0 rfl (lv_at hl 0 rfl) ?_
  refine xi_z_eq (tgt := 23) hx hb ⟨by omega, by omega⟩ dX4_mayBePass_1 (by decide) (fun z1 => ?_) (fun z1 => ?_)
  · refine lv_iconst (v := iI (1)) hx hb dX4_mayBePass_23 (by decide) ?_
    refine lv_goto (tgt := 28) hx hb dX4_mayBePass_24 (by decide) ?_
    exact W.zret hx hb hr (by decide) (fun t ht hW => ⟨_, rfl, by rw [bI_t (by omega)], ht⟩) (fun q h => by cases h) dX4_mayBePass_28
  · refine lv_iload_n hx hb dX4_mayBePass_4 rfl (lv_at hl 0 rfl) ?_
    refine lv_iconst (v := iI (2)) hx hb dX4_mayBePass_5 (by decide) ?_
    refine lv_bipush (v := iI (9)) hx hb dX4_mayBePass_6 (by decide) ?_
    refine xu_b (P := 2 ≤ p ∧ p ≤ 9) (rS (rest := []) hx hb hml hown hts hK hl (c_X4_isBetween l g p 2 9 (show IR p from ⟨by omega, by omega⟩) (show IR 2 from ⟨by omega, by omega⟩) (show IR 9 from ⟨by omega, by omega⟩)) lk_X4_99 trivial rfl rfl rfl (Rm.of rfl) rfl rfl dX4_mayBePass_8) (fun z2 => ?_) (fun z2 => ?_)
    · refine xi_zf_eq hx hb ⟨by decide, by decide⟩ (by decide) dX4_mayBePass_11 ⟨27, by decide⟩ ?_
      refine lv_iload_n hx hb dX4_mayBePass_14 rfl (lv_at hl 1 rfl) ?_
      refine lv_iconst (v := iI (0)) hx hb dX4_mayBePass_15 (by decide) ?_
      refine lv_iload_n hx hb dX4_mayBePass_16 rfl (lv_at hl 0 rfl) ?_
      refine xu_b (P := 0 ≤ o ∧ o ≤ p) (rS (rest := []) hx hb hml hown hts hK hl (c_X4_isBetween l g o 0 p (show IR o from ⟨by omega, by omega⟩) (show IR 0 from ⟨by omega, by omega⟩) (show IR p from ⟨by omega, by omega⟩)) lk_X4_99 trivial rfl rfl rfl (Rm.of rfl) rfl rfl dX4_mayBePass_17) (fun z3 => ?_) (fun z3 => ?_)
      · refine xi_zf_eq hx hb ⟨by decide, by decide⟩ (by decide) dX4_mayBePass_20 ⟨27, by decide⟩ ?_
        refine lv_iconst (v := iI (1)) hx hb dX4_mayBePass_23 (by decide) ?_
        refine lv_goto (tgt := 28) hx hb dX4_mayBePass_24 (by decide) ?_
        exact W.zret hx hb hr (by decide) (fun t ht hW => ⟨_, rfl, by rw [bI_t (by omega)], ht⟩) (fun q h => by cases h) dX4_mayBePass_28
      · refine xi_zt_eq (tgt := 27) hx hb ⟨by decide, by decide⟩ (by decide) dX4_mayBePass_20 (by decide) ?_
        refine lv_iconst (v := iI (0)) hx hb dX4_mayBePass_27 (by decide) ?_
        exact W.zret hx hb hr (by decide) (fun t ht hW => ⟨_, rfl, by rw [bI_f (by omega)], ht⟩) (fun q h => by cases h) dX4_mayBePass_28
    · refine xi_zt_eq (tgt := 27) hx hb ⟨by decide, by decide⟩ (by decide) dX4_mayBePass_11 (by decide) ?_
      refine lv_iconst (v := iI (0)) hx hb dX4_mayBePass_27 (by decide) ?_
      exact W.zret hx hb hr (by decide) (fun t ht hW => ⟨_, rfl, by rw [bI_f (by omega)], ht⟩) (fun q h => by cases h) dX4_mayBePass_28
abbrev rm_X4_mayBeBits : Room := { frames := 0, cells := 0, slots := 0, locals := 0 }
set_option maxRecDepth 100000 in
set_option maxHeartbeats 4000000 in
theorem c_X4_mayBeBits (l : Launch) (g : Gd) (b : Int) (h1 : IR b) : Met l yX4_mayBeBits (wsOf yX4_mayBeBits cX4_mayBeBits 1 (some .boolean)) rm_X4_mayBeBits (PX g (fun _ => True) [.int (iI b)]) (vp_Si (fun r9 => r9 = iI (bI (b = 0 ∨ b = 8 ∨ b = 16 ∨ b = 64)))) 0 0 (fun _ => False) := by
  refine me (g := g) (by decide) rfl ?_
  intro pq eq s mq below meth cq C hnm hB ls hl
  obtain ⟨hx, hb, hr, hml, hown, hts, hlocks, hK⟩ := C
  have hown : s.vm.findClass RX4 = some mq.cls := hown
  have hl : lv_has ls 1 [(0, .int (iI b))] := hl
  have q1 := h1.1
  have q2 := h1.2
  refine lv_iload_n hx hb dX4_mayBeBits_0 rfl (lv_at hl 0 rfl) ?_
  refine xi_z_eq (tgt := 22) hx hb ⟨by omega, by omega⟩ dX4_mayBeBits_1 (by decide) (fun z1 => ?_) (fun z1 => ?_)
  · refine lv_iconst (v := iI (1)) hx hb dX4_mayBeBits_22 (by decide) ?_
    refine lv_goto (tgt := 27) hx hb dX4_mayBeBits_23 (by decide) ?_
    exact W.zret hx hb hr (by decide) (fun t ht hW => ⟨_, rfl, by rw [bI_t (by omega)], ht⟩) (fun q h => by cases h) dX4_mayBeBits_27
  · refine lv_iload_n hx hb dX4_mayBeBits_4 rfl (lv_at hl 0 rfl) ?_
    refine lv_bipush (v := iI (8)) hx hb dX4_mayBeBits_5 (by decide) ?_
    refine xi_c_eq (tgt := 22) hx hb ⟨by omega, by omega⟩ ⟨by decide, by decide⟩ dX4_mayBeBits_7 (by decide) (fun z2 => ?_) (fun z2 => ?_)
    · refine lv_iconst (v := iI (1)) hx hb dX4_mayBeBits_22 (by decide) ?_
      refine lv_goto (tgt := 27) hx hb dX4_mayBeBits_23 (by decide) ?_
      exact W.zret hx hb hr (by decide) (fun t ht hW => ⟨_, rfl, by rw [bI_t (by omega)], ht⟩) (fun q h => by cases h) dX4_mayBeBits_27
    · refine lv_iload_n hx hb dX4_mayBeBits_10 rfl (lv_at hl 0 rfl) ?_
      refine lv_bipush (v := iI (16)) hx hb dX4_mayBeBits_11 (by decide) ?_
      refine xi_c_eq (tgt := 22) hx hb ⟨by omega, by omega⟩ ⟨by decide, by decide⟩ dX4_mayBeBits_13 (by decide) (fun z3 => ?_) (fun z3 => ?_)
      · refine lv_iconst (v := iI (1)) hx hb dX4_mayBeBits_22 (by decide) ?_
        refine lv_goto (tgt := 27) hx hb dX4_mayBeBits_23 (by decide) ?_
        exact W.zret hx hb hr (by decide) (fun t ht hW => ⟨_, rfl, by rw [bI_t (by omega)], ht⟩) (fun q h => by cases h) dX4_mayBeBits_27
      · refine lv_iload_n hx hb dX4_mayBeBits_16 rfl (lv_at hl 0 rfl) ?_
        refine lv_bipush (v := iI (64)) hx hb dX4_mayBeBits_17 (by decide) ?_
        refine xi_c_ne (tgt := 26) hx hb ⟨by omega, by omega⟩ ⟨by decide, by decide⟩ dX4_mayBeBits_19 (by decide) (fun z4 => ?_) (fun z4 => ?_)
        · refine lv_iconst (v := iI (0)) hx hb dX4_mayBeBits_26 (by decide) ?_
          exact W.zret hx hb hr (by decide) (fun t ht hW => ⟨_, rfl, by rw [bI_f (by omega)], ht⟩) (fun q h => by cases h) dX4_mayBeBits_27
        · refine lv_iconst (v := iI (1)) hx hb dX4_mayBeBits_22 (by decide) ?_
          refine lv_goto (tgt := 27) hx hb dX4_mayBeBits_23 (by decide) ?_
          exact W.zret hx hb hr (by decide) (fun t ht hW => ⟨_, rfl, by rw [bI_t (by omega)], ht⟩) (fun q h => by cases h) dX4_mayBeBits_27
abbrev rm_X4_nextCell : Room := { frames := 0, cells := 0, slots := 0, locals := 0 }
set_option maxRecDepth 100000 in
set_option maxHeartbeats 4000000 in
theorem c_X4_nextCell (l : Launch) (g : Gd) (c : Int) (h1 : 0 ≤ c ∧ c ≤ 23) : Met l yX4_nextCell (wsOf yX4_nextCell cX4_nextCell 1 (some .int)) rm_X4_nextCell (PX g (fun _ => True) [.int (iI c)]) (vp_Si (fun r9 => r9 = iI (bh c))) 0 0 (fun _ => False) := by
  refine me (g := g) (by decide) rfl ?_
  intro pq eq s mq below meth cq C hnm hB ls hl
  obtain ⟨hx, hb, hr, hml, hown, hts, hlocks, hK⟩ := C
  have hown : s.vm.findClass RX4 = some mq.cls := hown
  have hl : lv_has ls 1 [(0, .int (iI c))] := hl
  refine lv_iload_n hx hb dX4_nextCell_0 rfl (lv_at hl 0 rfl) ?_
  refine lv_bipush (v := iI (23)) hx hb dX4_nextCell_1 (by decide) ?_
  refine xi_c_lt (tgt := 10) hx hb ⟨by omega, by omega⟩ ⟨by decide, by decide⟩ dX4_nextCell_3 (by decide) (fun z1 => ?_) (fun z1 => ?_)
  · refine lv_iload_n hx hb dX4_nextCell_10 rfl (lv_at hl 0 rfl) ?_
    refine lv_iconst (v := iI (1)) hx hb dX4_nextCell_11 (by decide) ?_
    refine xi_add hx hb dX4_nextCell_12 ?_
    exact W.iret hx hb hr (fun t ht hW => ⟨_, rfl, congrArg iI (by unfold bh; split <;> omega), ht⟩) (fun q h => by cases h) dX4_nextCell_13
  · refine lv_iconst (v := iI (0)) hx hb dX4_nextCell_6 (by decide) ?_
    refine lv_goto (tgt := 13) hx hb dX4_nextCell_7 (by decide) ?_
    exact W.iret hx hb hr (fun t ht hW => ⟨_, rfl, congrArg iI (by unfold bh; split <;> omega), ht⟩) (fun q h => by cases h) dX4_nextCell_13
abbrev rm_X4_isIn : Room := { frames := 0, cells := 0, slots := 0, locals := 0 }
set_option maxRecDepth 100000 in
set_option maxHeartbeats 4000000 in
theorem c_X4_isIn (l : Launch) (g : Gd) (x : Int32) (c : Int) (h1 : 0 ≤ c ∧ c < 32) : Met l yX4_isIn (wsOf yX4_isIn cX4_isIn 2 (some .boolean)) rm_X4_isIn (PX g (fun _ => True) [.int x, .int (iI c)]) (vp_Si (fun r9 => r9 = iI (bI (bt x (Int.toNat c) = true)))) 0 0 (fun _ => False) := by
  refine me (g := g) (by decide) rfl ?_
  intro pq eq s mq below meth cq C hnm hB ls hl
  obtain ⟨hx, hb, hr, hml, hown, hts, hlocks, hK⟩ := C
  have hown : s.vm.findClass RX4 = some mq.cls := hown
  have hl : lv_has ls 2 [(0, .int x), (1, .int (iI c))] := hl
  refine lv_iload_n hx hb dX4_isIn_0 rfl (lv_at hl 0 rfl) ?_
  refine lv_iload_n hx hb dX4_isIn_1 rfl (lv_at hl 1 rfl) ?_
  refine lv_ishr hx hb dX4_isIn_2 ?_
  refine lv_iconst (v := iI (1)) hx hb dX4_isIn_3 (by decide) ?_
  refine lv_iand hx hb dX4_isIn_4 ?_
  refine lv_if_eq (tgt := 12) hx hb dX4_isIn_5 (by decide) (fun z1 => ?_) (fun z1 => ?_)
  · refine lv_iconst (v := iI (0)) hx hb dX4_isIn_12 (by decide) ?_
    exact W.zret hx hb hr (by decide) (fun t ht hW => ⟨_, rfl, by first | rw [bI_t (by rw [← Bool.not_eq_false]; intro z; exact absurd ((tst_i h1).mpr z) (by assumption))] | rw [bI_f (by rw [Bool.not_eq_true]; exact (tst_i h1).mp (by assumption))], ht⟩) (fun q h => by cases h) dX4_isIn_13
  · refine lv_iconst (v := iI (1)) hx hb dX4_isIn_8 (by decide) ?_
    refine lv_goto (tgt := 13) hx hb dX4_isIn_9 (by decide) ?_
    exact W.zret hx hb hr (by decide) (fun t ht hW => ⟨_, rfl, by first | rw [bI_t (by rw [← Bool.not_eq_false]; intro z; exact absurd ((tst_i h1).mpr z) (by assumption))] | rw [bI_f (by rw [Bool.not_eq_true]; exact (tst_i h1).mp (by assumption))], ht⟩) (fun q h => by cases h) dX4_isIn_13
abbrev rm_X4_kindAbove : Room := { frames := 0, cells := 0, slots := 0, locals := 0 }
set_option maxRecDepth 100000 in
set_option maxHeartbeats 4000000 in
theorem c_X4_kindAbove (l : Launch) (g : Gd) (k : Int) (h1 : IR k) : Met l yX4_kindAbove (wsOf yX4_kindAbove cX4_kindAbove 1 (some .int)) rm_X4_kindAbove (PX g (fun _ => True) [.int (iI k)]) (vp_Si (fun r9 => r9 = iI (if k = 4 then 1 else if k = 5 then 2 else 0))) 0 0 (fun _ => False) := by
  refine me (g := g) (by decide) rfl ?_
  intro pq eq s mq below meth cq C hnm hB ls hl
  obtain ⟨hx, hb, hr, hml, hown, hts, hlocks, hK⟩ := C
  have hown : s.vm.findClass RX4 = some mq.cls := hown
  have hl : lv_has ls 1 [(0, .int (iI k))] := hl
  have q1 := h1.1
  have q2 := h1.2
  refine lv_iload_n hx hb dX4_kindAbove_0 rfl (lv_at hl 0 rfl) ?_
  have hir1 : IR (k) := ⟨by omega, by omega⟩
  rcases (show (k) = 4 ∨ (k) = 5 ∨ (¬ (k) = 4 ∧ ¬ (k) = 5) by omega) with z1 | z1 | z1
  · refine lv_lookup (tgt := 28) (off := 27) hx hb dX4_kindAbove_1 (by decide) (by rw [iI_toInt hir1, z1]; decide) (by decide) ?_
    refine lv_iconst (v := iI (1)) hx hb dX4_kindAbove_28 (by decide) ?_
    exact W.iret hx hb hr (fun t ht hW => ⟨_, rfl, congrArg iI (by split <;> (try split) <;> omega), ht⟩) (fun q h => by cases h) dX4_kindAbove_29
  · refine lv_lookup (tgt := 30) (off := 29) hx hb dX4_kindAbove_1 (by decide) (by rw [iI_toInt hir1, z1]; decide) (by decide) ?_
    refine lv_iconst (v := iI (2)) hx hb dX4_kindAbove_30 (by decide) ?_
    exact W.iret hx hb hr (fun t ht hW => ⟨_, rfl, congrArg iI (by split <;> (try split) <;> omega), ht⟩) (fun q h => by cases h) dX4_kindAbove_31
  · refine lv_lookup (tgt := 32) (off := 31) hx hb dX4_kindAbove_1 (by decide) (by rw [iI_toInt hir1]; exact lku_no2 z1) (by decide) ?_
    refine lv_iconst (v := iI (0)) hx hb dX4_kindAbove_32 (by decide) ?_
    exact W.iret hx hb hr (fun t ht hW => ⟨_, rfl, congrArg iI (by split <;> (try split) <;> omega), ht⟩) (fun q h => by cases h) dX4_kindAbove_33
abbrev rm_X1_putPass : Room := { frames := 0, cells := 0, slots := 0, locals := 0 }
set_option maxRecDepth 100000 in
set_option maxHeartbeats 4000000 in
theorem c_X1_putPass (l : Launch) (g : Gd) (a : Nat → Nat) (f1 : Int → Int) (f10 : Int → Int) (f11 : Int → Int) (ce : Int) (pe : Int) (op : Int) (sz : Nat) (h1 : 0 ≤ ce ∧ ce < 24) (h2 : IR pe) : Met l yX1_putPass (wsOf yX1_putPass cX1_putPass 4 none) rm_X1_putPass (PX g (wP g (wLs g a f1 f10 f11) sz) [.ref (a 0), .int (iI ce), .int (iI pe), .int (iI op)]) (QMv g (fun _ : Unit => wLs g a (up (up f1 (7 + ce) pe) (31 + ce) (if pe = 0 then 0 else op)) f10 f11) (fun _ => True) (va_A (wLs g a f1 f10 f11) sz)) 0 0 (va_A (wLs g a f1 f10 f11) sz) := by
  refine me (g := g) (by decide) rfl ?_
  intro pq eq s mq below meth cq C hnm hB ls hl
  obtain ⟨hx, hb, hr, hml, hown, hts, hlocks, hK⟩ := C
  have hown : s.vm.findClass RX1 = some mq.cls := hown
  have hl : lv_has ls 4 [(0, .ref (a 0)), (1, .int (iI ce)), (2, .int (iI pe)), (3, .int (iI op))] := hl
  obtain ⟨hsz, hP, hD0⟩ := hB
  subst hsz
  have hD := hD0.self (sz := s.heap.size)
  have hA : ∀ q : Nat, s.heap.size ≤ q → va_A (wLs g a f1 f10 f11) s.heap.size q := fun q h => Or.inr h
  have hS : va_S (va_A (wLs g a f1 f10 f11) s.heap.size) s.heap s.heap [] := va_S.rf
  have q1 := h2.1
  have q2 := h2.2
  refine lv_aload_n hx hb dX1_putPass_0 rfl (lv_at hl 0 rfl) ?_
  refine xg_X1 hx hb hts hown hK hP 0 rfl 3 (by decide) fk_X1_9 (v := .ref (a 1)) rfl dX1_putPass_1 ?_
  refine lv_iload_n hx hb dX1_putPass_4 rfl (lv_at hl 1 rfl) ?_
  refine lv_iload_n hx hb dX1_putPass_5 rfl (lv_at hl 2 rfl) ?_
  refine xi_ast hx hb hK hP hD hS 1 (f := pj 7 24 f1) rfl (i := ce) (v := pe) ⟨by omega, by omega⟩ rfl dX1_putPass_6 (fun H locs hP hD hS => ?_)
  have hP := Eq.mp (congrArg (fun z9 : va_W => va_P g.1 vwCl (z9) H) (Ls_periods (g := g) (a := a) (s := f1) (x10 := f10) (x11 := f11) (i := ce) (v := pe) ⟨by omega, by omega⟩)) hP
  have hD := Eq.mp (congrArg (fun z9 : va_W => va_D (va_A (wLs g a f1 f10 f11) s.heap.size) (z9)) (Ls_periods (g := g) (a := a) (s := f1) (x10 := f10) (x11 := f11) (i := ce) (v := pe) ⟨by omega, by omega⟩)) hD
  have hP : va_P g.1 vwCl (wLs g a (up f1 (7 + ce) pe) f10 f11) H := hP
  have hD : va_D (va_A (wLs g a f1 f10 f11) s.heap.size) (wLs g a (up f1 (7 + ce) pe) f10 f11) := hD
  refine lv_aload_n hx hb dX1_putPass_7 rfl (lv_at hl 0 rfl) ?_
  refine xg_X1 hx hb hts hown hK hP 0 rfl 4 (by decide) fk_X1_15 (v := .ref (a 2)) rfl dX1_putPass_8 ?_
  refine lv_iload_n hx hb dX1_putPass_11 rfl (lv_at hl 1 rfl) ?_
  refine lv_iload_n hx hb dX1_putPass_12 rfl (lv_at hl 2 rfl) ?_
  refine xi_z_ne (tgt := 20) hx hb ⟨by omega, by omega⟩ dX1_putPass_13 (by decide) (fun z1 => ?_) (fun z1 => ?_)
  · refine lv_iload_n hx hb dX1_putPass_20 rfl (lv_at hl 3 rfl) ?_
    refine xi_ast hx hb hK hP hD hS 2 (f := pj 31 24 (up f1 (7 + ce) pe)) rfl (i := ce) (v := op) ⟨by omega, by omega⟩ rfl dX1_putPass_21 (fun H locs hP hD hS => ?_)
    have hP := Eq.mp (congrArg (fun z9 : va_W => va_P g.1 vwCl (z9) H) (Ls_opens (g := g) (a := a) (s := up f1 (7 + ce) pe) (x10 := f10) (x11 := f11) (i := ce) (v := op) ⟨by omega, by omega⟩)) hP
    have hD := Eq.mp (congrArg (fun z9 : va_W => va_D (va_A (wLs g a f1 f10 f11) s.heap.size) (z9)) (Ls_opens (g := g) (a := a) (s := up f1 (7 + ce) pe) (x10 := f10) (x11 := f11) (i := ce) (v := op) ⟨by omega, by omega⟩)) hD
    have hP : va_P g.1 vwCl (wLs g a (up (up f1 (7 + ce) pe) (31 + ce) op) f10 f11) H := hP
    have hD : va_D (va_A (wLs g a f1 f10 f11) s.heap.size) (wLs g a (up (up f1 (7 + ce) pe) (31 + ce) op) f10 f11) := hD
    have he2 : (up (up f1 (7 + ce) pe) (31 + ce) op) = (up (up f1 (7 + ce) pe) (31 + ce) (if pe = 0 then 0 else op)) := by first | rw [if_pos (by omega)] | rw [if_neg (by omega)]
    have hP := Eq.mp (congrArg (fun z9 => va_P g.1 vwCl (wLs g a z9 f10 f11) H) he2) hP
    have hD := Eq.mp (congrArg (fun z9 => va_D (va_A (wLs g a f1 f10 f11) s.heap.size) (wLs g a z9 f10 f11)) he2) hD
    have hP : va_P g.1 vwCl (wLs g a (up (up f1 (7 + ce) pe) (31 + ce) (if pe = 0 then 0 else op)) f10 f11) H := hP
    have hD : va_D (va_A (wLs g a f1 f10 f11) s.heap.size) (wLs g a (up (up f1 (7 + ce) pe) (31 + ce) (if pe = 0 then 0 else op)) f10 f11) := hD
    exact W.vret hx hb hr (fun t ht hW => ⟨⟨(), rfl, trivial, by rw [ht]; exact hP, hD⟩, hS.F ht⟩) hS.2.2 dX1_putPass_22
  · refine lv_iconst (v := iI (0)) hx hb dX1_putPass_16 (by decide) ?_
    refine lv_goto (tgt := 21) hx hb dX1_putPass_17 (by decide) ?_
    refine xi_ast hx hb hK hP hD hS 2 (f := pj 31 24 (up f1 (7 + ce) pe)) rfl (i := ce) (v := 0) ⟨by omega, by omega⟩ rfl dX1_putPass_21 (fun H locs hP hD hS => ?_)
    have hP := Eq.mp (congrArg (fun z9 : va_W => va_P g.1 vwCl (z9) H) (Ls_opens (g := g) (a := a) (s := up f1 (7 + ce) pe) (x10 := f10) (x11 := f11) (i := ce) (v := 0) ⟨by omega, by omega⟩)) hP
    have hD := Eq.mp (congrArg (fun z9 : va_W => va_D (va_A (wLs g a f1 f10 f11) s.heap.size) (z9)) (Ls_opens (g := g) (a := a) (s := up f1 (7 + ce) pe) (x10 := f10) (x11 := f11) (i := ce) (v := 0) ⟨by omega, by omega⟩)) hD
    have hP : va_P g.1 vwCl (wLs g a (up (up f1 (7 + ce) pe) (31 + ce) 0) f10 f11) H := hP
    have hD : va_D (va_A (wLs g a f1 f10 f11) s.heap.size) (wLs g a (up (up f1 (7 + ce) pe) (31 + ce) 0) f10 f11) := hD
    have he3 : (up (up f1 (7 + ce) pe) (31 + ce) 0) = (up (up f1 (7 + ce) pe) (31 + ce) (if pe = 0 then 0 else op)) := by first | rw [if_pos (by omega)] | rw [if_neg (by omega)]
    have hP := Eq.mp (congrArg (fun z9 => va_P g.1 vwCl (wLs g a z9 f10 f11) H) he3) hP
    have hD := Eq.mp (congrArg (fun z9 => va_D (va_A (wLs g a f1 f10 f11) s.heap.size) (wLs g a z9 f10 f11)) he3) hD
    have hP : va_P g.1 vwCl (wLs g a (up (up f1 (7 + ce) pe) (31 + ce) (if pe = 0 then 0 else op)) f10 f11) H := hP
    have hD : va_D (va_A (wLs g a f1 f10 f11) s.heap.size) (wLs g a (up (up f1 (7 + ce) pe) (31 + ce) (if pe = 0 then 0 else op)) f10 f11) := hD
    exact W.vret hx hb hr (fun t ht hW => ⟨⟨(), rfl, trivial, by rw [ht]; exact hP, hD⟩, hS.F ht⟩) hS.2.2 dX1_putPass_22
abbrev rm_X1_isPass : Room := { frames := 0, cells := 0, slots := 0, locals := 0 }
set_option maxRecDepth 100000 in
set_option maxHeartbeats 4000000 in
theorem c_X1_isPass (l : Launch) (g : Gd) (a : Nat → Nat) (f1 : Int → Int) (f10 : Int → Int) (f11 : Int → Int) (ce : Int) (h1 : Inv f1) (h2 : 0 ≤ ce ∧ ce < 24) : Met l yX1_isPass (wsOf yX1_isPass cX1_isPass 2 (some .boolean)) rm_X1_isPass (PX g (va_P g.1 vwCl (wLs g a f1 f10 f11)) [.ref (a 0), .int (iI ce)]) (vp_Si (fun r9 => r9 = iI (bI (0 < f1 (7 + ce))))) 0 0 (fun _ => False) := by
  refine me (g := g) (by decide) rfl ?_
  intro pq eq s mq below meth cq C hnm hB ls hl
  obtain ⟨hx, hb, hr, hml, hown, hts, hlocks, hK⟩ := C
  have hown : s.vm.findClass RX1 = some mq.cls := hown
  have hl : lv_has ls 2 [(0, .ref (a 0)), (1, .int (iI ce))] := hl
  have hP : va_P g.1 vwCl (wLs g a f1 f10 f11) s.heap := hB
  have hI := h1
  have hn := hI.num
  have hs := hI.sea
  have hp := hI.pas ce h2.1 h2.2
  refine lv_aload_n hx hb dX1_isPass_0 rfl (lv_at hl 0 rfl) ?_
  refine xg_X1 hx hb hts hown hK hP 0 rfl 3 (by decide) fk_X1_9 (v := .ref (a 1)) rfl dX1_isPass_1 ?_
  refine lv_iload_n hx hb dX1_isPass_4 rfl (lv_at hl 1 rfl) ?_
  refine xi_alq hx hb hK hP 1 (s0 := f1) rfl (i := ce) ⟨by omega, by omega⟩ rfl dX1_isPass_5 ?_
  refine xi_z_le (tgt := 13) hx hb ⟨by omega, by omega⟩ dX1_isPass_6 (by decide) (fun z1 => ?_) (fun z1 => ?_)
  · refine lv_iconst (v := iI (0)) hx hb dX1_isPass_13 (by decide) ?_
    exact W.zret hx hb hr (by decide) (fun t ht hW => ⟨_, rfl, by rw [bI_f (by omega)], ht⟩) (fun q h => by cases h) dX1_isPass_14
  · refine lv_iconst (v := iI (1)) hx hb dX1_isPass_9 (by decide) ?_
    refine lv_goto (tgt := 14) hx hb dX1_isPass_10 (by decide) ?_
    exact W.zret hx hb hr (by decide) (fun t ht hW => ⟨_, rfl, by rw [bI_t (by omega)], ht⟩) (fun q h => by cases h) dX1_isPass_14
abbrev rm_X1_isOpen : Room := { frames := 0, cells := 0, slots := 0, locals := 0 }
set_option maxRecDepth 100000 in
set_option maxHeartbeats 4000000 in
theorem c_X1_isOpen (l : Launch) (g : Gd) (a : Nat → Nat) (f1 : Int → Int) (f10 : Int → Int) (f11 : Int → Int) (ce : Int) (h1 : Inv f1) (h2 : 0 ≤ ce ∧ ce < 24) : Met l yX1_isOpen (wsOf yX1_isOpen cX1_isOpen 3 (some .boolean)) rm_X1_isOpen (PX g (va_P g.1 vwCl (wLs g a f1 f10 f11)) [.ref (a 0), .int (iI ce)]) (vp_Si (fun r9 => r9 = iI (bI (opn f1 ce)))) 0 0 (fun _ => False) := by
  refine me (g := g) (by decide) rfl ?_
  intro pq eq s mq below meth cq C hnm hB ls hl
  obtain ⟨hx, hb, hr, hml, hown, hts, hlocks, hK⟩ := C
  have hown : s.vm.findClass RX1 = some mq.cls := hown
  have hl : lv_has ls 3 [(0, .ref (a 0)), (1, .int (iI ce))] := hl
  have hP : va_P g.1 vwCl (wLs g a f1 f10 f11) s.heap := hB
  have hI := h1
  have hn := hI.num
  have hs := hI.sea
  have hp := hI.pas ce h2.1 h2.2
  refine lv_aload_n hx hb dX1_isOpen_0 rfl (lv_at hl 0 rfl) ?_
  refine xg_X1 hx hb hts hown hK hP 0 rfl 3 (by decide) fk_X1_9 (v := .ref (a 1)) rfl dX1_isOpen_1 ?_
  refine lv_iload_n hx hb dX1_isOpen_4 rfl (lv_at hl 1 rfl) ?_
  refine xi_alq hx hb hK hP 1 (s0 := f1) rfl (i := ce) ⟨by omega, by omega⟩ rfl dX1_isOpen_5 ?_
  refine lv_istore_n (lv' := [(2, .int (iI (f1 (7 + ce)))), (0, .ref (a 0)), (1, .int (iI ce))]) hx hb dX1_isOpen_6 rfl hl (by decide) rfl (fun ls hl => ?_)
  refine lv_iload_n hx hb dX1_isOpen_7 rfl (lv_at hl 0 rfl) ?_
  refine xi_z_le (tgt := 26) hx hb ⟨by omega, by omega⟩ dX1_isOpen_8 (by decide) (fun z1 => ?_) (fun z1 => ?_)
  · refine lv_iconst (v := iI (1)) hx hb dX1_isOpen_26 (by decide) ?_
    refine lv_goto (tgt := 31) hx hb dX1_isOpen_27 (by decide) ?_
    exact W.zret hx hb hr (by decide) (fun t ht hW => ⟨_, rfl, by rw [bI_t (by omega)], ht⟩) (fun q h => by cases h) dX1_isOpen_31
  · refine lv_aload_n hx hb dX1_isOpen_11 rfl (lv_at hl 1 rfl) ?_
    refine xg_X1 hx hb hts hown hK hP 0 rfl 0 (by decide) fk_X1_45 (v := .int (iI (f1 0))) rfl dX1_isOpen_12 ?_
    refine lv_iload_n hx hb dX1_isOpen_15 rfl (lv_at hl 0 rfl) ?_
    refine xi_rem hx hb ⟨by omega, by omega, by omega, by omega⟩ dX1_isOpen_16 ?_
    have hm1 := Int.emod_nonneg (f1 0) (show f1 (7 + ce) ≠ 0 by omega)
    have hm2 := Int.emod_lt_of_pos (f1 0) (show 0 < f1 (7 + ce) by omega)
    refine lv_aload_n hx hb dX1_isOpen_17 rfl (lv_at hl 1 rfl) ?_
    refine xg_X1 hx hb hts hown hK hP 0 rfl 4 (by decide) fk_X1_15 (v := .ref (a 2)) rfl dX1_isOpen_18 ?_
    refine lv_iload_n hx hb dX1_isOpen_21 rfl (lv_at hl 2 rfl) ?_
    refine xi_alq hx hb hK hP 2 (s0 := f1) rfl (i := ce) ⟨by omega, by omega⟩ rfl dX1_isOpen_22 ?_
    refine xi_c_ge (tgt := 30) hx hb ⟨by omega, by omega⟩ ⟨by omega, by omega⟩ dX1_isOpen_23 (by decide) (fun z2 => ?_) (fun z2 => ?_)
    · refine lv_iconst (v := iI (0)) hx hb dX1_isOpen_30 (by decide) ?_
      exact W.zret hx hb hr (by decide) (fun t ht hW => ⟨_, rfl, by rw [bI_f (by omega)], ht⟩) (fun q h => by cases h) dX1_isOpen_31
    · refine lv_iconst (v := iI (1)) hx hb dX1_isOpen_26 (by decide) ?_
      refine lv_goto (tgt := 31) hx hb dX1_isOpen_27 (by decide) ?_
      exact W.zret hx hb hr (by decide) (fun t ht hW => ⟨_, rfl, by rw [bI_t (by omega)], ht⟩) (fun q h => by cases h) dX1_isOpen_31
abbrev rm_X1_isSummer : Room := { frames := 0, cells := 0, slots := 0, locals := 0 }
set_option maxRecDepth 100000 in
set_option maxHeartbeats 4000000 in
theorem c_X1_isSummer (l : Launch) (g : Gd) (a : Nat → Nat) (f1 : Int → Int) (f10 : Int → Int) (f11 : Int → Int) (h1 : Inv f1) : Met l yX1_isSummer (wsOf yX1_isSummer cX1_isSummer 1 (some .boolean)) rm_X1_isSummer (PX g (va_P g.1 vwCl (wLs g a f1 f10 f11)) [.ref (a 0)]) (vp_Si (fun r9 => r9 = iI (bI (f1 0 % 4 < 2)))) 0 0 (fun _ => False) := by
  refine me (g := g) (by decide) rfl ?_
  intro pq eq s mq below meth cq C hnm hB ls hl
  obtain ⟨hx, hb, hr, hml, hown, hts, hlocks, hK⟩ := C
  have hown : s.vm.findClass RX1 = some mq.cls := hown
  have hl : lv_has ls 1 [(0, .ref (a 0))] := hl
  have hP : va_P g.1 vwCl (wLs g a f1 f10 f11) s.heap := hB
  have hI := h1
  have hn := hI.num
  have hs := hI.sea
  refine lv_aload_n hx hb dX1_isSummer_0 rfl (lv_at hl 0 rfl) ?_
  refine xg_X1 hx hb hts hown hK hP 0 rfl 0 (by decide) fk_X1_45 (v := .int (iI (f1 0))) rfl dX1_isSummer_1 ?_
  refine lv_iconst (v := iI (4)) hx hb dX1_isSummer_4 (by decide) ?_
  refine xi_rem hx hb ⟨by omega, by omega, by omega, by omega⟩ dX1_isSummer_5 ?_
  refine lv_iconst (v := iI (2)) hx hb dX1_isSummer_6 (by decide) ?_
  refine xi_c_ge (tgt := 14) hx hb ⟨by omega, by omega⟩ ⟨by decide, by decide⟩ dX1_isSummer_7 (by decide) (fun z1 => ?_) (fun z1 => ?_)
  · refine lv_iconst (v := iI (0)) hx hb dX1_isSummer_14 (by decide) ?_
    exact W.zret hx hb hr (by decide) (fun t ht hW => ⟨_, rfl, by rw [bI_f (by omega)], ht⟩) (fun q h => by cases h) dX1_isSummer_15
  · refine lv_iconst (v := iI (1)) hx hb dX1_isSummer_10 (by decide) ?_
    refine lv_goto (tgt := 15) hx hb dX1_isSummer_11 (by decide) ?_
    exact W.zret hx hb hr (by decide) (fun t ht hW => ⟨_, rfl, by rw [bI_t (by omega)], ht⟩) (fun q h => by cases h) dX1_isSummer_15
abbrev rm_X1_rangeIn : Room := { frames := 0, cells := 0, slots := 0, locals := 0 }
set_option maxRecDepth 100000 in
set_option maxHeartbeats 4000000 in
theorem c_X1_rangeIn (l : Launch) (g : Gd) (a : Nat → Nat) (f1 : Int → Int) (f10 : Int → Int) (f11 : Int → Int) (ce : Int) (h1 : Inv f1) (h2 : IR ce) : Met l yX1_rangeIn (wsOf yX1_rangeIn cX1_rangeIn 3 (some .int)) rm_X1_rangeIn (PX g (va_P g.1 vwCl (wLs g a f1 f10 f11)) [.ref (a 0), .int (iI ce)]) (vp_Si (fun r9 => r9 = iI (who f1 ce))) 0 0 (fun _ => False) := by
  refine me (g := g) (by decide) rfl ?_
  intro pq eq s mq below meth cq C hnm hB ls hl
  obtain ⟨hx, hb, hr, hml, hown, hts, hlocks, hK⟩ := C
  have hown : s.vm.findClass RX1 = some mq.cls := hown
  have hl : lv_has ls 3 [(0, .ref (a 0)), (1, .int (iI ce))] := hl
  have hP : va_P g.1 vwCl (wLs g a f1 f10 f11) s.heap := hB
  have hI := h1
  have hn := hI.num
  have hs := hI.sea
  have q1 := h2.1
  have q2 := h2.2
  refine lv_iconst (v := iI (0)) hx hb dX1_rangeIn_0 (by decide) ?_
  refine lv_istore_n (lv' := [(2, .int (iI 0)), (0, .ref (a 0)), (1, .int (iI ce))]) hx hb dX1_rangeIn_1 rfl hl (by decide) rfl (fun ls hl => ?_)
  have lp2 : ∀ (n2 : Nat) (k : Nat), ((k : Int) ≤ f1 1) → (∀ q : Int, 0 ≤ q → q < k → f1 (61 + 5 * q + 1) ≠ ce) → 8 - k < n2 → ∀ ls : Array Slot, lv_has ls 3 [(2, .int (iI (k : Int))), (0, .ref (a 0)), (1, .int (iI ce))] → W pq l eq rm_X1_rangeIn s mq [.ref (a 0), .int (iI ce)].toArray below meth cq s.heap [] 0 0 (MQ below (vp_Si (fun r9 => r9 = iI (who f1 ce))) [.ref (a 0), .int (iI ce)].toArray s 0 0 (fun _ => False)) (F0 mq 2 ls []) := by
    intro n2
    induction n2 with
    | zero => intro k i2_1 i2_2 hm; exact absurd hm (Nat.not_lt_zero _)
    | succ n2 ih2 =>
      intro k i2_1 i2_2 hm2 ls hl
      refine lv_iload_n hx hb dX1_rangeIn_2 rfl (lv_at hl 0 rfl) ?_
      refine lv_aload_n hx hb dX1_rangeIn_3 rfl (lv_at hl 1 rfl) ?_
      refine xg_X1 hx hb hts hown hK hP 0 rfl 1 (by decide) fk_X1_49 (v := .int (iI (f1 1))) rfl dX1_rangeIn_4 ?_
      refine xi_c_ge (tgt := 28) hx hb ⟨by omega, by omega⟩ ⟨by omega, by omega⟩ dX1_rangeIn_7 (by decide) (fun z1 => ?_) (fun z1 => ?_)
      · refine lv_iconst (v := iI (-1)) hx hb dX1_rangeIn_28 (by decide) ?_
        exact W.iret hx hb hr (fun t ht hW => ⟨_, rfl, congrArg iI (who_no hn.1 (fun q h0 h1 => i2_2 q h0 (by omega))).symm, ht⟩) (fun q h => by cases h) dX1_rangeIn_29
      · have hc := hI.ran (k : Int) (by omega) (by omega)
        refine lv_aload_n hx hb dX1_rangeIn_10 rfl (lv_at hl 1 rfl) ?_
        refine xg_X1 hx hb hts hown hK hP 0 rfl 8 (by decide) fk_X1_27 (v := .ref (a 6)) rfl dX1_rangeIn_11 ?_
        refine lv_iload_n hx hb dX1_rangeIn_14 rfl (lv_at hl 0 rfl) ?_
        refine xi_alz hx hb hK hP 6 (s0 := f1) rfl (i := (k : Int)) ⟨by omega, by omega⟩ rfl dX1_rangeIn_15 ?_
        refine lv_iload_n hx hb dX1_rangeIn_16 rfl (lv_at hl 2 rfl) ?_
        refine xi_c_ne (tgt := 22) hx hb ⟨by omega, by omega⟩ ⟨by omega, by omega⟩ dX1_rangeIn_17 (by decide) (fun z2 => ?_) (fun z2 => ?_)
        · refine xi_inc (lv' := [(2, .int (iI ((k : Int) + 1))), (0, .ref (a 0)), (1, .int (iI ce))]) hx hb dX1_rangeIn_22 hl (k := 0) rfl (by decide) rfl (fun ls hl => ?_)
          refine lv_goto (tgt := 2) hx hb dX1_rangeIn_25 (by decide) ?_
          have hq3 : ((k : Int) + 1) = ((k + 1) : Int) := by omega
          have hl : lv_has ls 3 [(2, .int (iI ((k : Int) + 1))), (0, .ref (a 0)), (1, .int (iI ce))] := lv_sub hl [0, 1, 2] rfl
          have hl := Eq.mp (congrArg (fun z9 => lv_has ls 3 [(2, .int (iI z9)), (0, .ref (a 0)), (1, .int (iI ce))]) hq3) hl
          exact ih2 (k + 1) (by omega) (fun q h0 h1 => if h : q < k then i2_2 q h0 h else by rw [show q = (k : Int) by omega]; assumption) (by omega) ls hl
        · refine lv_iload_n hx hb dX1_rangeIn_20 rfl (lv_at hl 0 rfl) ?_
          exact W.iret hx hb hr (fun t ht hW => ⟨_, rfl, congrArg iI (who_eq hI (by omega) (by omega) (by assumption)).symm, ht⟩) (fun q h => by cases h) dX1_rangeIn_21
  have hq4 : 0 = (0 : Int) := rfl
  have hl : lv_has ls 3 [(2, .int (iI 0)), (0, .ref (a 0)), (1, .int (iI ce))] := lv_sub hl [0, 1, 2] rfl
  have hl := Eq.mp (congrArg (fun z9 => lv_has ls 3 [(2, .int (iI z9)), (0, .ref (a 0)), (1, .int (iI ce))]) hq4) hl
  exact lp2 (8 + 1) 0 (by omega) (fun q h0 h1 => by omega) (by omega) ls hl
abbrev rm_X1_isLit : Room := { frames := 1, cells := 0, slots := 0, locals := 22 }
set_option maxRecDepth 100000 in
set_option maxHeartbeats 4000000 in
theorem c_X1_isLit (l : Launch) (g : Gd) (a : Nat → Nat) (f1 : Int → Int) (f10 : Int → Int) (f11 : Int → Int) (v : Int) (h1 : Inv f1) (h2 : 0 ≤ v ∧ v < f1 2) : Met l yX1_isLit (wsOf yX1_isLit cX1_isLit 3 (some .boolean)) rm_X1_isLit (PX g (va_P g.1 vwCl (wLs g a f1 f10 f11)) [.ref (a 0), .int (iI v)]) (vp_Si (fun r9 => r9 = iI (bI (litP f1 v)))) 0 0 (fun _ => False) := by
  refine me (g := g) (by decide) rfl ?_
  intro pq eq s mq below meth cq C hnm hB ls hl
  obtain ⟨hx, hb, hr, hml, hown, hts, hlocks, hK⟩ := C
  have hown : s.vm.findClass RX1 = some mq.cls := hown
  have hl : lv_has ls 3 [(0, .ref (a 0)), (1, .int (iI v))] := hl
  have hP : va_P g.1 vwCl (wLs g a f1 f10 f11) s.heap := hB
  have hI := h1
  have hn := hI.num
  have hs := hI.sea
  have hv := hI.vil
  have hh := hI.home v h2.1 h2.2
  have b1 := who_b (f1 (55 + v)) hn
  have b2 := who_b (bh (f1 (55 + v))) hn
  have b3 := bh_b hh
  refine lv_aload_n hx hb dX1_isLit_0 rfl (lv_at hl 0 rfl) ?_
  refine xg_X1 hx hb hts hown hK hP 0 rfl 5 (by decide) fk_X1_18 (v := .ref (a 3)) rfl dX1_isLit_1 ?_
  refine lv_iload_n hx hb dX1_isLit_4 rfl (lv_at hl 1 rfl) ?_
  refine xi_alq hx hb hK hP 3 (s0 := f1) rfl (i := v) ⟨by omega, by omega⟩ rfl dX1_isLit_5 ?_
  refine lv_istore_n (lv' := [(2, .int (iI (f1 (55 + v)))), (0, .ref (a 0)), (1, .int (iI v))]) hx hb dX1_isLit_6 rfl hl (by decide) rfl (fun ls hl => ?_)
  refine lv_aload_n hx hb dX1_isLit_7 rfl (lv_at hl 1 rfl) ?_
  refine lv_iload_n hx hb dX1_isLit_8 rfl (lv_at hl 0 rfl) ?_
  refine xu_i (x := iI (who f1 (f1 (55 + v)))) (rV (rest := []) hx hb hml hown hts hK hl (c_X1_rangeIn l g a f1 f10 f11 (f1 (55 + v)) (show Inv f1 from h1) (show IR (f1 (55 + v)) from ⟨by omega, by omega⟩)) lk_X1_61 hP (va_recv hK.1 hP (ci := 1) (q0 := 0) rfl rfl) rfl rfl rfl (Rm.of rfl) rfl rfl dX1_isLit_9) ?_
  refine xi_z_ge (tgt := 30) hx hb ⟨by omega, by omega⟩ dX1_isLit_12 (by decide) (fun z2 => ?_) (fun z2 => ?_)
  · refine lv_iconst (v := iI (0)) hx hb dX1_isLit_30 (by decide) ?_
    exact W.zret hx hb hr (by decide) (fun t ht hW => ⟨_, rfl, by rw [bI_f (by omega)], ht⟩) (fun q h => by cases h) dX1_isLit_31
  · refine lv_aload_n hx hb dX1_isLit_15 rfl (lv_at hl 1 rfl) ?_
    refine lv_iload_n hx hb dX1_isLit_16 rfl (lv_at hl 0 rfl) ?_
    refine xu_i (x := iI (bh (f1 (55 + v)))) (rSN (rest := [.ref (a 0)]) hx hb hml hown hts hK hl (c_X4_nextCell l g (f1 (55 + v)) (show 0 ≤ (f1 (55 + v)) ∧ (f1 (55 + v)) ≤ 23 from by omega)) lk_X1_65 trivial rfl rfl rfl (Rm.of rfl) rfl rfl dX1_isLit_17) ?_
    refine xu_i (x := iI (who f1 (bh (f1 (55 + v))))) (rV (rest := []) hx hb hml hown hts hK hl (c_X1_rangeIn l g a f1 f10 f11 (bh (f1 (55 + v))) (show Inv f1 from h1) (show IR (bh (f1 (55 + v))) from ⟨by omega, by omega⟩)) lk_X1_61 hP (va_recv hK.1 hP (ci := 1) (q0 := 0) rfl rfl) rfl rfl rfl (Rm.of rfl) rfl rfl dX1_isLit_20) ?_
    refine xi_z_ge (tgt := 30) hx hb ⟨by omega, by omega⟩ dX1_isLit_23 (by decide) (fun z5 => ?_) (fun z5 => ?_)
    · refine lv_iconst (v := iI (0)) hx hb dX1_isLit_30 (by decide) ?_
      exact W.zret hx hb hr (by decide) (fun t ht hW => ⟨_, rfl, by rw [bI_f (by omega)], ht⟩) (fun q h => by cases h) dX1_isLit_31
    · refine lv_iconst (v := iI (1)) hx hb dX1_isLit_26 (by decide) ?_
      refine lv_goto (tgt := 31) hx hb dX1_isLit_27 (by decide) ?_
      exact W.zret hx hb hr (by decide) (fun t ht hW => ⟨_, rfl, by rw [bI_t (by omega)], ht⟩) (fun q h => by cases h) dX1_isLit_31
abbrev rm_X1_addVillage : Room := { frames := 0, cells := 0, slots := 0, locals := 0 }
set_option maxRecDepth 100000 in
set_option maxHeartbeats 4000000 in
theorem c_X1_addVillage (l : Launch) (g : Gd) (a : Nat → Nat) (f1 : Int → Int) (f10 : Int → Int) (f11 : Int → Int) (ce : Int) (sz : Nat) (h1 : 0 ≤ f1 2 ∧ f1 2 < 6) : Met l yX1_addVillage (wsOf yX1_addVillage cX1_addVillage 2 (some .int)) rm_X1_addVillage (PX g (wP g (wLs g a f1 f10 f11) sz) [.ref (a 0), .int (iI ce)]) (QMi g (fun _ : Unit => wLs g a (nVil f1 ce) f10 f11) (fun r9 _ => r9 = iI (f1 2)) (va_A (wLs g a f1 f10 f11) sz)) 0 0 (va_A (wLs g a f1 f10 f11) sz) := by
  refine me (g := g) (by decide) rfl ?_
  intro pq eq s mq below meth cq C hnm hB ls hl
  obtain ⟨hx, hb, hr, hml, hown, hts, hlocks, hK⟩ := C
  have hown : s.vm.findClass RX1 = some mq.cls := hown
  have hl : lv_has ls 2 [(0, .ref (a 0)), (1, .int (iI ce))] := hl
  obtain ⟨hsz, hP, hD0⟩ := hB
  subst hsz
  have hD := hD0.self (sz := s.heap.size)
  have hA : ∀ q : Nat, s.heap.size ≤ q → va_A (wLs g a f1 f10 f11) s.heap.size q := fun q h => Or.inr h
  have hS : va_S (va_A (wLs g a f1 f10 f11) s.heap.size) s.heap s.heap [] := va_S.rf
  refine lv_aload_n hx hb dX1_addVillage_0 rfl (lv_at hl 0 rfl) ?_
  refine xg_X1 hx hb hts hown hK hP 0 rfl 5 (by decide) fk_X1_18 (v := .ref (a 3)) rfl dX1_addVillage_1 ?_
  refine lv_aload_n hx hb dX1_addVillage_4 rfl (lv_at hl 0 rfl) ?_
  refine xg_X1 hx hb hts hown hK hP 0 rfl 2 (by decide) fk_X1_52 (v := .int (iI (f1 2))) rfl dX1_addVillage_5 ?_
  refine lv_iload_n hx hb dX1_addVillage_8 rfl (lv_at hl 1 rfl) ?_
  refine xi_ast hx hb hK hP hD hS 3 (f := pj 55 6 f1) rfl (i := f1 2) (v := ce) ⟨by omega, by omega⟩ rfl dX1_addVillage_9 (fun H locs hP hD hS => ?_)
  have hP := Eq.mp (congrArg (fun z9 : va_W => va_P g.1 vwCl (z9) H) (Ls_homes (g := g) (a := a) (s := f1) (x10 := f10) (x11 := f11) (i := f1 2) (v := ce) ⟨by omega, by omega⟩)) hP
  have hD := Eq.mp (congrArg (fun z9 : va_W => va_D (va_A (wLs g a f1 f10 f11) s.heap.size) (z9)) (Ls_homes (g := g) (a := a) (s := f1) (x10 := f10) (x11 := f11) (i := f1 2) (v := ce) ⟨by omega, by omega⟩)) hD
  have hP : va_P g.1 vwCl (wLs g a (up f1 (55 + (f1 2)) ce) f10 f11) H := hP
  have hD : va_D (va_A (wLs g a f1 f10 f11) s.heap.size) (wLs g a (up f1 (55 + (f1 2)) ce) f10 f11) := hD
  refine lv_aload_n hx hb dX1_addVillage_10 rfl (lv_at hl 0 rfl) ?_
  refine lv_dup hx hb dX1_addVillage_11 rfl ?_
  refine xg_X1 hx hb hts hown hK hP 0 rfl 2 (by decide) fk_X1_52 (v := .int (iI ((up f1 (55 + (f1 2)) ce) 2))) rfl dX1_addVillage_12 ?_
  refine lv_iconst (v := iI (1)) hx hb dX1_addVillage_15 (by decide) ?_
  refine xi_add hx hb dX1_addVillage_16 ?_
  refine xp_X1 hx hb hts hown hK hP hD hS 0 rfl 2 (by decide) fk_X1_52 rfl (v := .int (iI ((up f1 (55 + (f1 2)) ce) 2 + 1))) rfl rfl (Nat.le_of_ble_eq_true rfl) dX1_addVillage_17 (fun H locs hP hD hS => ?_)
  have hP := Eq.mp (congrArg (fun z9 : va_W => va_P g.1 vwCl (z9) H) (Ls_villages (g := g) (a := a) (s := up f1 (55 + (f1 2)) ce) (x10 := f10) (x11 := f11) (v := (up f1 (55 + (f1 2)) ce) 2 + 1))) hP
  have hD := Eq.mp (congrArg (fun z9 : va_W => va_D (va_A (wLs g a f1 f10 f11) s.heap.size) (z9)) (Ls_villages (g := g) (a := a) (s := up f1 (55 + (f1 2)) ce) (x10 := f10) (x11 := f11) (v := (up f1 (55 + (f1 2)) ce) 2 + 1))) hD
  have hP : va_P g.1 vwCl (wLs g a (up (up f1 (55 + (f1 2)) ce) 2 ((up f1 (55 + (f1 2)) ce) 2 + 1)) f10 f11) H := hP
  have hD : va_D (va_A (wLs g a f1 f10 f11) s.heap.size) (wLs g a (up (up f1 (55 + (f1 2)) ce) 2 ((up f1 (55 + (f1 2)) ce) 2 + 1)) f10 f11) := hD
  refine lv_aload_n hx hb dX1_addVillage_20 rfl (lv_at hl 0 rfl) ?_
  refine xg_X1 hx hb hts hown hK hP 0 rfl 2 (by decide) fk_X1_52 (v := .int (iI ((up (up f1 (55 + (f1 2)) ce) 2 ((up f1 (55 + (f1 2)) ce) 2 + 1)) 2))) rfl dX1_addVillage_21 ?_
  refine lv_iconst (v := iI (1)) hx hb dX1_addVillage_24 (by decide) ?_
  refine xi_sub hx hb dX1_addVillage_25 ?_
  have he1 : (up (up f1 (55 + (f1 2)) ce) 2 ((up f1 (55 + (f1 2)) ce) 2 + 1)) = (nVil f1 ce) := by unfold nVil; rw [up_n (by omega)]
  have hP := Eq.mp (congrArg (fun z9 => va_P g.1 vwCl (wLs g a z9 f10 f11) H) he1) hP
  have hD := Eq.mp (congrArg (fun z9 => va_D (va_A (wLs g a f1 f10 f11) s.heap.size) (wLs g a z9 f10 f11)) he1) hD
  have hP : va_P g.1 vwCl (wLs g a (nVil f1 ce) f10 f11) H := hP
  have hD : va_D (va_A (wLs g a f1 f10 f11) s.heap.size) (wLs g a (nVil f1 ce) f10 f11) := hD
  exact W.iret hx hb hr (fun t ht hW => ⟨⟨_, (), rfl, congrArg iI (by rw [up_s, up_n (by omega)]; omega), by rw [ht]; exact hP, hD⟩, hS.F ht⟩) hS.2.2 dX1_addVillage_26
abbrev rm_X1_addRange : Room := { frames := 0, cells := 0, slots := 0, locals := 0 }
set_option maxRecDepth 100000 in
set_option maxHeartbeats 4000000 in
theorem c_X1_addRange (l : Launch) (g : Gd) (a : Nat → Nat) (f1 : Int → Int) (f10 : Int → Int) (f11 : Int → Int) (k : Int) (ce : Int) (ha : Int) (sz : Nat) (h1 : 0 ≤ f1 1 ∧ f1 1 < 8) : Met l yX1_addRange (wsOf yX1_addRange cX1_addRange 5 (some .int)) rm_X1_addRange (PX g (wP g (wLs g a f1 f10 f11) sz) [.ref (a 0), .int (iI k), .int (iI ce), .int (iI ha)]) (QMi g (fun _ : Unit => wLs g a (addR f1 k ce ha) f10 f11) (fun r9 _ => r9 = iI (f1 1)) (va_A (wLs g a f1 f10 f11) sz)) 0 0 (va_A (wLs g a f1 f10 f11) sz) := by
  refine me (g := g) (by decide) rfl ?_
  intro pq eq s mq below meth cq C hnm hB ls hl
  obtain ⟨hx, hb, hr, hml, hown, hts, hlocks, hK⟩ := C
  have hown : s.vm.findClass RX1 = some mq.cls := hown
  have hl : lv_has ls 5 [(0, .ref (a 0)), (1, .int (iI k)), (2, .int (iI ce)), (3, .int (iI ha))] := hl
  obtain ⟨hsz, hP, hD0⟩ := hB
  subst hsz
  have hD := hD0.self (sz := s.heap.size)
  have hA : ∀ q : Nat, s.heap.size ≤ q → va_A (wLs g a f1 f10 f11) s.heap.size q := fun q h => Or.inr h
  have hS : va_S (va_A (wLs g a f1 f10 f11) s.heap.size) s.heap s.heap [] := va_S.rf
  refine lv_aload_n hx hb dX1_addRange_0 rfl (lv_at hl 0 rfl) ?_
  refine xg_X1 hx hb hts hown hK hP 0 rfl 1 (by decide) fk_X1_49 (v := .int (iI (f1 1))) rfl dX1_addRange_1 ?_
  refine lv_istore (lv' := [(4, .int (iI (f1 1))), (0, .ref (a 0)), (1, .int (iI k)), (2, .int (iI ce)), (3, .int (iI ha))]) hx hb dX1_addRange_4 hl (by decide) rfl (fun ls hl => ?_)
  refine lv_aload_n hx hb dX1_addRange_6 rfl (lv_at hl 1 rfl) ?_
  refine xg_X1 hx hb hts hown hK hP 0 rfl 7 (by decide) fk_X1_24 (v := .ref (a 5)) rfl dX1_addRange_7 ?_
  refine lv_iload hx hb dX1_addRange_10 (lv_at hl 0 rfl) ?_
  refine lv_iload_n hx hb dX1_addRange_12 rfl (lv_at hl 2 rfl) ?_
  refine xi_ast hx hb hK hP hD hS 5 (f := pz 0 f1) rfl (i := f1 1) (v := k) ⟨by omega, by omega⟩ rfl dX1_addRange_13 (fun H locs hP hD hS => ?_)
  have hP := Eq.mp (congrArg (fun z9 : va_W => va_P g.1 vwCl (z9) H) (Ls_kinds (g := g) (a := a) (s := f1) (x10 := f10) (x11 := f11) (i := f1 1) (v := k) ⟨by omega, by omega⟩)) hP
  have hD := Eq.mp (congrArg (fun z9 : va_W => va_D (va_A (wLs g a f1 f10 f11) s.heap.size) (z9)) (Ls_kinds (g := g) (a := a) (s := f1) (x10 := f10) (x11 := f11) (i := f1 1) (v := k) ⟨by omega, by omega⟩)) hD
  have hP : va_P g.1 vwCl (wLs g a (up f1 (61 + 5 * (f1 1) + 0) k) f10 f11) H := hP
  have hD : va_D (va_A (wLs g a f1 f10 f11) s.heap.size) (wLs g a (up f1 (61 + 5 * (f1 1) + 0) k) f10 f11) := hD
  refine lv_aload_n hx hb dX1_addRange_14 rfl (lv_at hl 1 rfl) ?_
  refine xg_X1 hx hb hts hown hK hP 0 rfl 8 (by decide) fk_X1_27 (v := .ref (a 6)) rfl dX1_addRange_15 ?_
  refine lv_iload hx hb dX1_addRange_18 (lv_at hl 0 rfl) ?_
  refine lv_iload_n hx hb dX1_addRange_20 rfl (lv_at hl 3 rfl) ?_
  refine xi_ast hx hb hK hP hD hS 6 (f := pz 1 (up f1 (61 + 5 * (f1 1) + 0) k)) rfl (i := f1 1) (v := ce) ⟨by omega, by omega⟩ rfl dX1_addRange_21 (fun H locs hP hD hS => ?_)
  have hP := Eq.mp (congrArg (fun z9 : va_W => va_P g.1 vwCl (z9) H) (Ls_cells (g := g) (a := a) (s := up f1 (61 + 5 * (f1 1) + 0) k) (x10 := f10) (x11 := f11) (i := f1 1) (v := ce) ⟨by omega, by omega⟩)) hP
  have hD := Eq.mp (congrArg (fun z9 : va_W => va_D (va_A (wLs g a f1 f10 f11) s.heap.size) (z9)) (Ls_cells (g := g) (a := a) (s := up f1 (61 + 5 * (f1 1) + 0) k) (x10 := f10) (x11 := f11) (i := f1 1) (v := ce) ⟨by omega, by omega⟩)) hD
  have hP : va_P g.1 vwCl (wLs g a (up (up f1 (61 + 5 * (f1 1) + 0) k) (61 + 5 * (f1 1) + 1) ce) f10 f11) H := hP
  have hD : va_D (va_A (wLs g a f1 f10 f11) s.heap.size) (wLs g a (up (up f1 (61 + 5 * (f1 1) + 0) k) (61 + 5 * (f1 1) + 1) ce) f10 f11) := hD
  refine lv_aload_n hx hb dX1_addRange_22 rfl (lv_at hl 1 rfl) ?_
  refine xg_X1 hx hb hts hown hK hP 0 rfl 9 (by decide) fk_X1_30 (v := .ref (a 7)) rfl dX1_addRange_23 ?_
  refine lv_iload hx hb dX1_addRange_26 (lv_at hl 0 rfl) ?_
  refine lv_iload_n hx hb dX1_addRange_28 rfl (lv_at hl 4 rfl) ?_
  refine xi_ast hx hb hK hP hD hS 7 (f := pz 2 (up (up f1 (61 + 5 * (f1 1) + 0) k) (61 + 5 * (f1 1) + 1) ce)) rfl (i := f1 1) (v := ha) ⟨by omega, by omega⟩ rfl dX1_addRange_29 (fun H locs hP hD hS => ?_)
  have hP := Eq.mp (congrArg (fun z9 : va_W => va_P g.1 vwCl (z9) H) (Ls_hastes (g := g) (a := a) (s := up (up f1 (61 + 5 * (f1 1) + 0) k) (61 + 5 * (f1 1) + 1) ce) (x10 := f10) (x11 := f11) (i := f1 1) (v := ha) ⟨by omega, by omega⟩)) hP
  have hD := Eq.mp (congrArg (fun z9 : va_W => va_D (va_A (wLs g a f1 f10 f11) s.heap.size) (z9)) (Ls_hastes (g := g) (a := a) (s := up (up f1 (61 + 5 * (f1 1) + 0) k) (61 + 5 * (f1 1) + 1) ce) (x10 := f10) (x11 := f11) (i := f1 1) (v := ha) ⟨by omega, by omega⟩)) hD
  have hP : va_P g.1 vwCl (wLs g a (up (up (up f1 (61 + 5 * (f1 1) + 0) k) (61 + 5 * (f1 1) + 1) ce) (61 + 5 * (f1 1) + 2) ha) f10 f11) H := hP
  have hD : va_D (va_A (wLs g a f1 f10 f11) s.heap.size) (wLs g a (up (up (up f1 (61 + 5 * (f1 1) + 0) k) (61 + 5 * (f1 1) + 1) ce) (61 + 5 * (f1 1) + 2) ha) f10 f11) := hD
  refine lv_aload_n hx hb dX1_addRange_30 rfl (lv_at hl 1 rfl) ?_
  refine xg_X1 hx hb hts hown hK hP 0 rfl 10 (by decide) fk_X1_33 (v := .ref (a 8)) rfl dX1_addRange_31 ?_
  refine lv_iload hx hb dX1_addRange_34 (lv_at hl 0 rfl) ?_
  refine lv_iconst (v := iI (0)) hx hb dX1_addRange_36 (by decide) ?_
  refine xi_ast hx hb hK hP hD hS 8 (f := pz 3 (up (up (up f1 (61 + 5 * (f1 1) + 0) k) (61 + 5 * (f1 1) + 1) ce) (61 + 5 * (f1 1) + 2) ha)) rfl (i := f1 1) (v := 0) ⟨by omega, by omega⟩ rfl dX1_addRange_37 (fun H locs hP hD hS => ?_)
  have hP := Eq.mp (congrArg (fun z9 : va_W => va_P g.1 vwCl (z9) H) (Ls_steps (g := g) (a := a) (s := up (up (up f1 (61 + 5 * (f1 1) + 0) k) (61 + 5 * (f1 1) + 1) ce) (61 + 5 * (f1 1) + 2) ha) (x10 := f10) (x11 := f11) (i := f1 1) (v := 0) ⟨by omega, by omega⟩)) hP
  have hD := Eq.mp (congrArg (fun z9 : va_W => va_D (va_A (wLs g a f1 f10 f11) s.heap.size) (z9)) (Ls_steps (g := g) (a := a) (s := up (up (up f1 (61 + 5 * (f1 1) + 0) k) (61 + 5 * (f1 1) + 1) ce) (61 + 5 * (f1 1) + 2) ha) (x10 := f10) (x11 := f11) (i := f1 1) (v := 0) ⟨by omega, by omega⟩)) hD
  have hP : va_P g.1 vwCl (wLs g a (up (up (up (up f1 (61 + 5 * (f1 1) + 0) k) (61 + 5 * (f1 1) + 1) ce) (61 + 5 * (f1 1) + 2) ha) (61 + 5 * (f1 1) + 3) 0) f10 f11) H := hP
  have hD : va_D (va_A (wLs g a f1 f10 f11) s.heap.size) (wLs g a (up (up (up (up f1 (61 + 5 * (f1 1) + 0) k) (61 + 5 * (f1 1) + 1) ce) (61 + 5 * (f1 1) + 2) ha) (61 + 5 * (f1 1) + 3) 0) f10 f11) := hD
  refine lv_aload_n hx hb dX1_addRange_38 rfl (lv_at hl 1 rfl) ?_
  refine xg_X1 hx hb hts hown hK hP 0 rfl 11 (by decide) fk_X1_36 (v := .ref (a 9)) rfl dX1_addRange_39 ?_
  refine lv_iload hx hb dX1_addRange_42 (lv_at hl 0 rfl) ?_
  refine lv_iconst (v := iI (0)) hx hb dX1_addRange_44 (by decide) ?_
  refine xi_ast hx hb hK hP hD hS 9 (f := pz 4 (up (up (up (up f1 (61 + 5 * (f1 1) + 0) k) (61 + 5 * (f1 1) + 1) ce) (61 + 5 * (f1 1) + 2) ha) (61 + 5 * (f1 1) + 3) 0)) rfl (i := f1 1) (v := 0) ⟨by omega, by omega⟩ rfl dX1_addRange_45 (fun H locs hP hD hS => ?_)
  have hP := Eq.mp (congrArg (fun z9 : va_W => va_P g.1 vwCl (z9) H) (Ls_waits (g := g) (a := a) (s := up (up (up (up f1 (61 + 5 * (f1 1) + 0) k) (61 + 5 * (f1 1) + 1) ce) (61 + 5 * (f1 1) + 2) ha) (61 + 5 * (f1 1) + 3) 0) (x10 := f10) (x11 := f11) (i := f1 1) (v := 0) ⟨by omega, by omega⟩)) hP
  have hD := Eq.mp (congrArg (fun z9 : va_W => va_D (va_A (wLs g a f1 f10 f11) s.heap.size) (z9)) (Ls_waits (g := g) (a := a) (s := up (up (up (up f1 (61 + 5 * (f1 1) + 0) k) (61 + 5 * (f1 1) + 1) ce) (61 + 5 * (f1 1) + 2) ha) (61 + 5 * (f1 1) + 3) 0) (x10 := f10) (x11 := f11) (i := f1 1) (v := 0) ⟨by omega, by omega⟩)) hD
  have hP : va_P g.1 vwCl (wLs g a (up (up (up (up (up f1 (61 + 5 * (f1 1) + 0) k) (61 + 5 * (f1 1) + 1) ce) (61 + 5 * (f1 1) + 2) ha) (61 + 5 * (f1 1) + 3) 0) (61 + 5 * (f1 1) + 4) 0) f10 f11) H := hP
  have hD : va_D (va_A (wLs g a f1 f10 f11) s.heap.size) (wLs g a (up (up (up (up (up f1 (61 + 5 * (f1 1) + 0) k) (61 + 5 * (f1 1) + 1) ce) (61 + 5 * (f1 1) + 2) ha) (61 + 5 * (f1 1) + 3) 0) (61 + 5 * (f1 1) + 4) 0) f10 f11) := hD
  refine lv_aload_n hx hb dX1_addRange_46 rfl (lv_at hl 1 rfl) ?_
  refine lv_dup hx hb dX1_addRange_47 rfl ?_
  refine xg_X1 hx hb hts hown hK hP 0 rfl 1 (by decide) fk_X1_49 (v := .int (iI ((up (up (up (up (up f1 (61 + 5 * (f1 1) + 0) k) (61 + 5 * (f1 1) + 1) ce) (61 + 5 * (f1 1) + 2) ha) (61 + 5 * (f1 1) + 3) 0) (61 + 5 * (f1 1) + 4) 0) 1))) rfl dX1_addRange_48 ?_
  refine lv_iconst (v := iI (1)) hx hb dX1_addRange_51 (by decide) ?_
  refine xi_add hx hb dX1_addRange_52 ?_
  refine xp_X1 hx hb hts hown hK hP hD hS 0 rfl 1 (by decide) fk_X1_49 rfl (v := .int (iI ((up (up (up (up (up f1 (61 + 5 * (f1 1) + 0) k) (61 + 5 * (f1 1) + 1) ce) (61 + 5 * (f1 1) + 2) ha) (61 + 5 * (f1 1) + 3) 0) (61 + 5 * (f1 1) + 4) 0) 1 + 1))) rfl rfl (Nat.le_of_ble_eq_true rfl) dX1_addRange_53 (fun H locs hP hD hS => ?_)
  have hP := Eq.mp (congrArg (fun z9 : va_W => va_P g.1 vwCl (z9) H) (Ls_ranges (g := g) (a := a) (s := up (up (up (up (up f1 (61 + 5 * (f1 1) + 0) k) (61 + 5 * (f1 1) + 1) ce) (61 + 5 * (f1 1) + 2) ha) (61 + 5 * (f1 1) + 3) 0) (61 + 5 * (f1 1) + 4) 0) (x10 := f10) (x11 := f11) (v := (up (up (up (up (up f1 (61 + 5 * (f1 1) + 0) k) (61 + 5 * (f1 1) + 1) ce) (61 + 5 * (f1 1) + 2) ha) (61 + 5 * (f1 1) + 3) 0) (61 + 5 * (f1 1) + 4) 0) 1 + 1))) hP
  have hD := Eq.mp (congrArg (fun z9 : va_W => va_D (va_A (wLs g a f1 f10 f11) s.heap.size) (z9)) (Ls_ranges (g := g) (a := a) (s := up (up (up (up (up f1 (61 + 5 * (f1 1) + 0) k) (61 + 5 * (f1 1) + 1) ce) (61 + 5 * (f1 1) + 2) ha) (61 + 5 * (f1 1) + 3) 0) (61 + 5 * (f1 1) + 4) 0) (x10 := f10) (x11 := f11) (v := (up (up (up (up (up f1 (61 + 5 * (f1 1) + 0) k) (61 + 5 * (f1 1) + 1) ce) (61 + 5 * (f1 1) + 2) ha) (61 + 5 * (f1 1) + 3) 0) (61 + 5 * (f1 1) + 4) 0) 1 + 1))) hD
  have hP : va_P g.1 vwCl (wLs g a (up (up (up (up (up (up f1 (61 + 5 * (f1 1) + 0) k) (61 + 5 * (f1 1) + 1) ce) (61 + 5 * (f1 1) + 2) ha) (61 + 5 * (f1 1) + 3) 0) (61 + 5 * (f1 1) + 4) 0) 1 ((up (up (up (up (up f1 (61 + 5 * (f1 1) + 0) k) (61 + 5 * (f1 1) + 1) ce) (61 + 5 * (f1 1) + 2) ha) (61 + 5 * (f1 1) + 3) 0) (61 + 5 * (f1 1) + 4) 0) 1 + 1)) f10 f11) H := hP
  have hD : va_D (va_A (wLs g a f1 f10 f11) s.heap.size) (wLs g a (up (up (up (up (up (up f1 (61 + 5 * (f1 1) + 0) k) (61 + 5 * (f1 1) + 1) ce) (61 + 5 * (f1 1) + 2) ha) (61 + 5 * (f1 1) + 3) 0) (61 + 5 * (f1 1) + 4) 0) 1 ((up (up (up (up (up f1 (61 + 5 * (f1 1) + 0) k) (61 + 5 * (f1 1) + 1) ce) (61 + 5 * (f1 1) + 2) ha) (61 + 5 * (f1 1) + 3) 0) (61 + 5 * (f1 1) + 4) 0) 1 + 1)) f10 f11) := hD
  refine lv_iload hx hb dX1_addRange_56 (lv_at hl 0 rfl) ?_
  have he1 : (up (up (up (up (up (up f1 (61 + 5 * (f1 1) + 0) k) (61 + 5 * (f1 1) + 1) ce) (61 + 5 * (f1 1) + 2) ha) (61 + 5 * (f1 1) + 3) 0) (61 + 5 * (f1 1) + 4) 0) 1 ((up (up (up (up (up f1 (61 + 5 * (f1 1) + 0) k) (61 + 5 * (f1 1) + 1) ce) (61 + 5 * (f1 1) + 2) ha) (61 + 5 * (f1 1) + 3) 0) (61 + 5 * (f1 1) + 4) 0) 1 + 1)) = (addR f1 k ce ha) := by unfold addR; rw [up_n (by omega), up_n (by omega), up_n (by omega), up_n (by omega), up_n (by omega)]
  have hP := Eq.mp (congrArg (fun z9 => va_P g.1 vwCl (wLs g a z9 f10 f11) H) he1) hP
  have hD := Eq.mp (congrArg (fun z9 => va_D (va_A (wLs g a f1 f10 f11) s.heap.size) (wLs g a z9 f10 f11)) he1) hD
  have hP : va_P g.1 vwCl (wLs g a (addR f1 k ce ha) f10 f11) H := hP
  have hD : va_D (va_A (wLs g a f1 f10 f11) s.heap.size) (wLs g a (addR f1 k ce ha) f10 f11) := hD
  exact W.iret hx hb hr (fun t ht hW => ⟨⟨_, (), rfl, rfl, by rw [ht]; exact hP, hD⟩, hS.F ht⟩) hS.2.2 dX1_addRange_58
abbrev rm_X1_changePlaces : Room := { frames := 0, cells := 0, slots := 0, locals := 0 }
set_option maxRecDepth 100000 in
set_option maxHeartbeats 4000000 in
theorem c_X1_changePlaces (l : Launch) (g : Gd) (a : Nat → Nat) (f1 : Int → Int) (f10 : Int → Int) (f11 : Int → Int) (p : Int) (q : Int) (sz : Nat) (h1 : 0 ≤ p ∧ p < 8) (h2 : 0 ≤ q ∧ q < 8) : Met l yX1_changePlaces (wsOf yX1_changePlaces cX1_changePlaces 4 none) rm_X1_changePlaces (PX g (wP g (wLs g a f1 f10 f11) sz) [.ref (a 0), .int (iI p), .int (iI q)]) (QMv g (fun _ : Unit => wLs g a (swp f1 p q) f10 f11) (fun _ => True) (va_A (wLs g a f1 f10 f11) sz)) 0 0 (va_A (wLs g a f1 f10 f11) sz) := by
  refine me (g := g) (by decide) rfl ?_
  intro pq eq s mq below meth cq C hnm hB ls hl
  obtain ⟨hx, hb, hr, hml, hown, hts, hlocks, hK⟩ := C
  have hown : s.vm.findClass RX1 = some mq.cls := hown
  have hl : lv_has ls 4 [(0, .ref (a 0)), (1, .int (iI p)), (2, .int (iI q))] := hl
  obtain ⟨hsz, hP, hD0⟩ := hB
  subst hsz
  have hD := hD0.self (sz := s.heap.size)
  have hA : ∀ q : Nat, s.heap.size ≤ q → va_A (wLs g a f1 f10 f11) s.heap.size q := fun q h => Or.inr h
  have hS : va_S (va_A (wLs g a f1 f10 f11) s.heap.size) s.heap s.heap [] := va_S.rf
  refine lv_aload_n hx hb dX1_changePlaces_0 rfl (lv_at hl 0 rfl) ?_
  refine xg_X1 hx hb hts hown hK hP 0 rfl 8 (by decide) fk_X1_27 (v := .ref (a 6)) rfl dX1_changePlaces_1 ?_
  refine lv_iload_n hx hb dX1_changePlaces_4 rfl (lv_at hl 1 rfl) ?_
  refine xi_alz hx hb hK hP 6 (s0 := f1) rfl (i := p) ⟨by omega, by omega⟩ rfl dX1_changePlaces_5 ?_
  refine lv_istore_n (lv' := [(3, .int (iI (f1 (61 + 5 * p + 1)))), (0, .ref (a 0)), (1, .int (iI p)), (2, .int (iI q))]) hx hb dX1_changePlaces_6 rfl hl (by decide) rfl (fun ls hl => ?_)
  refine lv_aload_n hx hb dX1_changePlaces_7 rfl (lv_at hl 1 rfl) ?_
  refine xg_X1 hx hb hts hown hK hP 0 rfl 8 (by decide) fk_X1_27 (v := .ref (a 6)) rfl dX1_changePlaces_8 ?_
  refine lv_iload_n hx hb dX1_changePlaces_11 rfl (lv_at hl 2 rfl) ?_
  refine lv_aload_n hx hb dX1_changePlaces_12 rfl (lv_at hl 1 rfl) ?_
  refine xg_X1 hx hb hts hown hK hP 0 rfl 8 (by decide) fk_X1_27 (v := .ref (a 6)) rfl dX1_changePlaces_13 ?_
  refine lv_iload_n hx hb dX1_changePlaces_16 rfl (lv_at hl 3 rfl) ?_
  refine xi_alz hx hb hK hP 6 (s0 := f1) rfl (i := q) ⟨by omega, by omega⟩ rfl dX1_changePlaces_17 ?_
  refine xi_ast hx hb hK hP hD hS 6 (f := pz 1 f1) rfl (i := p) (v := f1 (61 + 5 * q + 1)) ⟨by omega, by omega⟩ rfl dX1_changePlaces_18 (fun H locs hP hD hS => ?_)
  have hP := Eq.mp (congrArg (fun z9 : va_W => va_P g.1 vwCl (z9) H) (Ls_cells (g := g) (a := a) (s := f1) (x10 := f10) (x11 := f11) (i := p) (v := f1 (61 + 5 * q + 1)) ⟨by omega, by omega⟩)) hP
  have hD := Eq.mp (congrArg (fun z9 : va_W => va_D (va_A (wLs g a f1 f10 f11) s.heap.size) (z9)) (Ls_cells (g := g) (a := a) (s := f1) (x10 := f10) (x11 := f11) (i := p) (v := f1 (61 + 5 * q + 1)) ⟨by omega, by omega⟩)) hD
  have hP : va_P g.1 vwCl (wLs g a (up f1 (61 + 5 * p + 1) (f1 (61 + 5 * q + 1))) f10 f11) H := hP
  have hD : va_D (va_A (wLs g a f1 f10 f11) s.heap.size) (wLs g a (up f1 (61 + 5 * p + 1) (f1 (61 + 5 * q + 1))) f10 f11) := hD
  refine lv_aload_n hx hb dX1_changePlaces_19 rfl (lv_at hl 1 rfl) ?_
  refine xg_X1 hx hb hts hown hK hP 0 rfl 8 (by decide) fk_X1_27 (v := .ref (a 6)) rfl dX1_changePlaces_20 ?_
  refine lv_iload_n hx hb dX1_changePlaces_23 rfl (lv_at hl 3 rfl) ?_
  refine lv_iload_n hx hb dX1_changePlaces_24 rfl (lv_at hl 0 rfl) ?_
  refine xi_ast hx hb hK hP hD hS 6 (f := pz 1 (up f1 (61 + 5 * p + 1) (f1 (61 + 5 * q + 1)))) rfl (i := q) (v := f1 (61 + 5 * p + 1)) ⟨by omega, by omega⟩ rfl dX1_changePlaces_25 (fun H locs hP hD hS => ?_)
  have hP := Eq.mp (congrArg (fun z9 : va_W => va_P g.1 vwCl (z9) H) (Ls_cells (g := g) (a := a) (s := up f1 (61 + 5 * p + 1) (f1 (61 + 5 * q + 1))) (x10 := f10) (x11 := f11) (i := q) (v := f1 (61 + 5 * p + 1)) ⟨by omega, by omega⟩)) hP
  have hD := Eq.mp (congrArg (fun z9 : va_W => va_D (va_A (wLs g a f1 f10 f11) s.heap.size) (z9)) (Ls_cells (g := g) (a := a) (s := up f1 (61 + 5 * p + 1) (f1 (61 + 5 * q + 1))) (x10 := f10) (x11 := f11) (i := q) (v := f1 (61 + 5 * p + 1)) ⟨by omega, by omega⟩)) hD
  have hP : va_P g.1 vwCl (wLs g a (up (up f1 (61 + 5 * p + 1) (f1 (61 + 5 * q + 1))) (61 + 5 * q + 1) (f1 (61 + 5 * p + 1))) f10 f11) H := hP
  have hD : va_D (va_A (wLs g a f1 f10 f11) s.heap.size) (wLs g a (up (up f1 (61 + 5 * p + 1) (f1 (61 + 5 * q + 1))) (61 + 5 * q + 1) (f1 (61 + 5 * p + 1))) f10 f11) := hD
  have he1 : (up (up f1 (61 + 5 * p + 1) (f1 (61 + 5 * q + 1))) (61 + 5 * q + 1) (f1 (61 + 5 * p + 1))) = (swp f1 p q) := rfl
  have hP := Eq.mp (congrArg (fun z9 => va_P g.1 vwCl (wLs g a z9 f10 f11) H) he1) hP
  have hD := Eq.mp (congrArg (fun z9 => va_D (va_A (wLs g a f1 f10 f11) s.heap.size) (wLs g a z9 f10 f11)) he1) hD
  have hP : va_P g.1 vwCl (wLs g a (swp f1 p q) f10 f11) H := hP
  have hD : va_D (va_A (wLs g a f1 f10 f11) s.heap.size) (wLs g a (swp f1 p q) f10 f11) := hD
  exact W.vret hx hb hr (fun t ht hW => ⟨⟨(), rfl, trivial, by rw [ht]; exact hP, hD⟩, hS.F ht⟩) hS.2.2 dX1_changePlaces_26
abbrev rm_X1_removeRange : Room := { frames := 0, cells := 0, slots := 0, locals := 0 }
set_option maxRecDepth 100000 in
set_option maxHeartbeats 4000000 in
theorem c_X1_removeRange (l : Launch) (g : Gd) (a : Nat → Nat) (f1 : Int → Int) (f10 : Int → Int) (f11 : Int → Int) (r : Int) (sz : Nat) (h1 : 0 ≤ r ∧ r < f1 1) (h2 : 0 ≤ f1 1 ∧ f1 1 ≤ 8) : Met l yX1_removeRange (wsOf yX1_removeRange cX1_removeRange 3 none) rm_X1_removeRange (PX g (wP g (wLs g a f1 f10 f11) sz) [.ref (a 0), .int (iI r)]) (QMv g (fun _ : Unit => wLs g a (nLev f1 r) f10 f11) (fun _ => True) (va_A (wLs g a f1 f10 f11) sz)) 0 0 (va_A (wLs g a f1 f10 f11) sz) := by
  refine me (g := g) (by decide) rfl ?_
  intro pq eq s mq below meth cq C hnm hB ls hl
  obtain ⟨hx, hb, hr, hml, hown, hts, hlocks, hK⟩ := C
  have hown : s.vm.findClass RX1 = some mq.cls := hown
  have hl : lv_has ls 3 [(0, .ref (a 0)), (1, .int (iI r))] := hl
  obtain ⟨hsz, hP, hD0⟩ := hB
  subst hsz
  have hD := hD0.self (sz := s.heap.size)
  have hA : ∀ q : Nat, s.heap.size ≤ q → va_A (wLs g a f1 f10 f11) s.heap.size q := fun q h => Or.inr h
  have hS : va_S (va_A (wLs g a f1 f10 f11) s.heap.size) s.heap s.heap [] := va_S.rf
  refine lv_iload_n hx hb dX1_removeRange_0 rfl (lv_at hl 1 rfl) ?_
  refine lv_istore_n (lv' := [(2, .int (iI r)), (0, .ref (a 0)), (1, .int (iI r))]) hx hb dX1_removeRange_1 rfl hl (by decide) rfl (fun ls hl => ?_)
  have lp2 : ∀ (n2 : Nat) (k : Int), (r ≤ k ∧ k ≤ f1 1 - 1) → (8 - k).toNat < n2 → ∀ ls : Array Slot, lv_has ls 3 [(2, .int (iI k)), (0, .ref (a 0)), (1, .int (iI r))] → ∀ (H : Heap) (locs : List Loc), va_P g.1 vwCl (wLs g a (lvT f1 (61 + 5 * r + 0) (61 + 5 * k + 0)) f10 f11) H → va_D (va_A (wLs g a f1 f10 f11) s.heap.size) (wLs g a (lvT f1 (61 + 5 * r + 0) (61 + 5 * k + 0)) f10 f11) → va_S (va_A (wLs g a f1 f10 f11) s.heap.size) s.heap H locs → W pq l eq rm_X1_removeRange s mq [.ref (a 0), .int (iI r)].toArray below meth cq H locs 0 0 (MQ below (QMv g (fun _ : Unit => wLs g a (nLev f1 r) f10 f11) (fun _ => True) (va_A (wLs g a f1 f10 f11) s.heap.size)) [.ref (a 0), .int (iI r)].toArray s 0 0 (va_A (wLs g a f1 f10 f11) s.heap.size)) (F0 mq 2 ls []) := by
    intro n2
    induction n2 with
    | zero => intro k i2_1 hm; exact absurd hm (Nat.not_lt_zero _)
    | succ n2 ih2 =>
      intro k i2_1 hm2 ls hl H locs hP hD hS
      have e1 : lvT f1 (61 + 5 * r + 0) (61 + 5 * k + 0) 1 = f1 1 := lvT_o (by omega)
      refine lv_iload_n hx hb dX1_removeRange_2 rfl (lv_at hl 0 rfl) ?_
      refine lv_iconst (v := iI (1)) hx hb dX1_removeRange_3 (by decide) ?_
      refine xi_add hx hb dX1_removeRange_4 ?_
      refine lv_aload_n hx hb dX1_removeRange_5 rfl (lv_at hl 1 rfl) ?_
      refine xg_X1 hx hb hts hown hK hP 0 rfl 1 (by decide) fk_X1_49 (v := .int (iI ((lvT f1 (61 + 5 * r + 0) (61 + 5 * k + 0)) 1))) rfl dX1_removeRange_6 ?_
      refine xi_c_ge (tgt := 88) hx hb ⟨by omega, by omega⟩ ⟨by omega, by omega⟩ dX1_removeRange_9 (by decide) (fun z1 => ?_) (fun z1 => ?_)
      · refine lv_aload_n hx hb dX1_removeRange_88 rfl (lv_at hl 1 rfl) ?_
        refine lv_dup hx hb dX1_removeRange_89 rfl ?_
        refine xg_X1 hx hb hts hown hK hP 0 rfl 1 (by decide) fk_X1_49 (v := .int (iI ((lvT f1 (61 + 5 * r + 0) (61 + 5 * k + 0)) 1))) rfl dX1_removeRange_90 ?_
        refine lv_iconst (v := iI (1)) hx hb dX1_removeRange_93 (by decide) ?_
        refine xi_sub hx hb dX1_removeRange_94 ?_
        refine xp_X1 hx hb hts hown hK hP hD hS 0 rfl 1 (by decide) fk_X1_49 rfl (v := .int (iI ((lvT f1 (61 + 5 * r + 0) (61 + 5 * k + 0)) 1 - 1))) rfl rfl (Nat.le_of_ble_eq_true rfl) dX1_removeRange_95 (fun H locs hP hD hS => ?_)
        have hP := Eq.mp (congrArg (fun z9 : va_W => va_P g.1 vwCl (z9) H) (Ls_ranges (g := g) (a := a) (s := lvT f1 (61 + 5 * r + 0) (61 + 5 * k + 0)) (x10 := f10) (x11 := f11) (v := (lvT f1 (61 + 5 * r + 0) (61 + 5 * k + 0)) 1 - 1))) hP
        have hD := Eq.mp (congrArg (fun z9 : va_W => va_D (va_A (wLs g a f1 f10 f11) s.heap.size) (z9)) (Ls_ranges (g := g) (a := a) (s := lvT f1 (61 + 5 * r + 0) (61 + 5 * k + 0)) (x10 := f10) (x11 := f11) (v := (lvT f1 (61 + 5 * r + 0) (61 + 5 * k + 0)) 1 - 1))) hD
        have hP : va_P g.1 vwCl (wLs g a (up (lvT f1 (61 + 5 * r + 0) (61 + 5 * k + 0)) 1 ((lvT f1 (61 + 5 * r + 0) (61 + 5 * k + 0)) 1 - 1)) f10 f11) H := hP
        have hD : va_D (va_A (wLs g a f1 f10 f11) s.heap.size) (wLs g a (up (lvT f1 (61 + 5 * r + 0) (61 + 5 * k + 0)) 1 ((lvT f1 (61 + 5 * r + 0) (61 + 5 * k + 0)) 1 - 1)) f10 f11) := hD
        have he2 : (up (lvT f1 (61 + 5 * r + 0) (61 + 5 * k + 0)) 1 ((lvT f1 (61 + 5 * r + 0) (61 + 5 * k + 0)) 1 - 1)) = (nLev f1 r) := by unfold nLev; rw [e1, show k = f1 1 - 1 by omega]
        have hP := Eq.mp (congrArg (fun z9 => va_P g.1 vwCl (wLs g a z9 f10 f11) H) he2) hP
        have hD := Eq.mp (congrArg (fun z9 => va_D (va_A (wLs g a f1 f10 f11) s.heap.size) (wLs g a z9 f10 f11)) he2) hD
        have hP : va_P g.1 vwCl (wLs g a (nLev f1 r) f10 f11) H := hP
        have hD : va_D (va_A (wLs g a f1 f10 f11) s.heap.size) (wLs g a (nLev f1 r) f10 f11) := hD
        exact W.vret hx hb hr (fun t ht hW => ⟨⟨(), rfl, trivial, by rw [ht]; exact hP, hD⟩, hS.F ht⟩) hS.2.2 dX1_removeRange_98
      · refine lv_aload_n hx hb dX1_removeRange_12 rfl (lv_at hl 1 rfl) ?_
        refine xg_X1 hx hb hts hown hK hP 0 rfl 7 (by decide) fk_X1_24 (v := .ref (a 5)) rfl dX1_removeRange_13 ?_
        refine lv_iload_n hx hb dX1_removeRange_16 rfl (lv_at hl 0 rfl) ?_
        refine lv_aload_n hx hb dX1_removeRange_17 rfl (lv_at hl 1 rfl) ?_
        refine xg_X1 hx hb hts hown hK hP 0 rfl 7 (by decide) fk_X1_24 (v := .ref (a 5)) rfl dX1_removeRange_18 ?_
        refine lv_iload_n hx hb dX1_removeRange_21 rfl (lv_at hl 0 rfl) ?_
        refine lv_iconst (v := iI (1)) hx hb dX1_removeRange_22 (by decide) ?_
        refine xi_add hx hb dX1_removeRange_23 ?_
        refine xi_alz hx hb hK hP 5 (s0 := lvT f1 (61 + 5 * r + 0) (61 + 5 * k + 0)) rfl (i := k + 1) ⟨by omega, by omega⟩ rfl dX1_removeRange_24 ?_
        refine xi_ast hx hb hK hP hD hS 5 (f := pz 0 (lvT f1 (61 + 5 * r + 0) (61 + 5 * k + 0))) rfl (i := k) (v := (lvT f1 (61 + 5 * r + 0) (61 + 5 * k + 0)) (61 + 5 * (k + 1) + 0)) ⟨by omega, by omega⟩ rfl dX1_removeRange_25 (fun H locs hP hD hS => ?_)
        have hP := Eq.mp (congrArg (fun z9 : va_W => va_P g.1 vwCl (z9) H) (Ls_kinds (g := g) (a := a) (s := lvT f1 (61 + 5 * r + 0) (61 + 5 * k + 0)) (x10 := f10) (x11 := f11) (i := k) (v := (lvT f1 (61 + 5 * r + 0) (61 + 5 * k + 0)) (61 + 5 * (k + 1) + 0)) ⟨by omega, by omega⟩)) hP
        have hD := Eq.mp (congrArg (fun z9 : va_W => va_D (va_A (wLs g a f1 f10 f11) s.heap.size) (z9)) (Ls_kinds (g := g) (a := a) (s := lvT f1 (61 + 5 * r + 0) (61 + 5 * k + 0)) (x10 := f10) (x11 := f11) (i := k) (v := (lvT f1 (61 + 5 * r + 0) (61 + 5 * k + 0)) (61 + 5 * (k + 1) + 0)) ⟨by omega, by omega⟩)) hD
        have hP : va_P g.1 vwCl (wLs g a (up (lvT f1 (61 + 5 * r + 0) (61 + 5 * k + 0)) (61 + 5 * k + 0) ((lvT f1 (61 + 5 * r + 0) (61 + 5 * k + 0)) (61 + 5 * (k + 1) + 0))) f10 f11) H := hP
        have hD : va_D (va_A (wLs g a f1 f10 f11) s.heap.size) (wLs g a (up (lvT f1 (61 + 5 * r + 0) (61 + 5 * k + 0)) (61 + 5 * k + 0) ((lvT f1 (61 + 5 * r + 0) (61 + 5 * k + 0)) (61 + 5 * (k + 1) + 0))) f10 f11) := hD
        have hc3 : (up (lvT f1 (61 + 5 * r + 0) (61 + 5 * k + 0)) (61 + 5 * k + 0) ((lvT f1 (61 + 5 * r + 0) (61 + 5 * k + 0)) (61 + 5 * (k + 1) + 0))) = (lvT f1 (61 + 5 * r + 0) (61 + 5 * k + 1)) := lvT_T f1 (by omega) (by omega) (by omega)
        have hP := Eq.mp (congrArg (fun z9 => va_P g.1 vwCl (wLs g a z9 f10 f11) H) hc3) hP
        have hD := Eq.mp (congrArg (fun z9 => va_D (va_A (wLs g a f1 f10 f11) s.heap.size) (wLs g a z9 f10 f11)) hc3) hD
        have hP : va_P g.1 vwCl (wLs g a (lvT f1 (61 + 5 * r + 0) (61 + 5 * k + 1)) f10 f11) H := hP
        have hD : va_D (va_A (wLs g a f1 f10 f11) s.heap.size) (wLs g a (lvT f1 (61 + 5 * r + 0) (61 + 5 * k + 1)) f10 f11) := hD
        refine lv_aload_n hx hb dX1_removeRange_26 rfl (lv_at hl 1 rfl) ?_
        refine xg_X1 hx hb hts hown hK hP 0 rfl 8 (by decide) fk_X1_27 (v := .ref (a 6)) rfl dX1_removeRange_27 ?_
        refine lv_iload_n hx hb dX1_removeRange_30 rfl (lv_at hl 0 rfl) ?_
        refine lv_aload_n hx hb dX1_removeRange_31 rfl (lv_at hl 1 rfl) ?_
        refine xg_X1 hx hb hts hown hK hP 0 rfl 8 (by decide) fk_X1_27 (v := .ref (a 6)) rfl dX1_removeRange_32 ?_
        refine lv_iload_n hx hb dX1_removeRange_35 rfl (lv_at hl 0 rfl) ?_
        refine lv_iconst (v := iI (1)) hx hb dX1_removeRange_36 (by decide) ?_
        refine xi_add hx hb dX1_removeRange_37 ?_
        refine xi_alz hx hb hK hP 6 (s0 := lvT f1 (61 + 5 * r + 0) (61 + 5 * k + 1)) rfl (i := k + 1) ⟨by omega, by omega⟩ rfl dX1_removeRange_38 ?_
        refine xi_ast hx hb hK hP hD hS 6 (f := pz 1 (lvT f1 (61 + 5 * r + 0) (61 + 5 * k + 1))) rfl (i := k) (v := (lvT f1 (61 + 5 * r + 0) (61 + 5 * k + 1)) (61 + 5 * (k + 1) + 1)) ⟨by omega, by omega⟩ rfl dX1_removeRange_39 (fun H locs hP hD hS => ?_)
        have hP := Eq.mp (congrArg (fun z9 : va_W => va_P g.1 vwCl (z9) H) (Ls_cells (g := g) (a := a) (s := lvT f1 (61 + 5 * r + 0) (61 + 5 * k + 1)) (x10 := f10) (x11 := f11) (i := k) (v := (lvT f1 (61 + 5 * r + 0) (61 + 5 * k + 1)) (61 + 5 * (k + 1) + 1)) ⟨by omega, by omega⟩)) hP
        have hD := Eq.mp (congrArg (fun z9 : va_W => va_D (va_A (wLs g a f1 f10 f11) s.heap.size) (z9)) (Ls_cells (g := g) (a := a) (s := lvT f1 (61 + 5 * r + 0) (61 + 5 * k + 1)) (x10 := f10) (x11 := f11) (i := k) (v := (lvT f1 (61 + 5 * r + 0) (61 + 5 * k + 1)) (61 + 5 * (k + 1) + 1)) ⟨by omega, by omega⟩)) hD
        have hP : va_P g.1 vwCl (wLs g a (up (lvT f1 (61 + 5 * r + 0) (61 + 5 * k + 1)) (61 + 5 * k + 1) ((lvT f1 (61 + 5 * r + 0) (61 + 5 * k + 1)) (61 + 5 * (k + 1) + 1))) f10 f11) H := hP
        have hD : va_D (va_A (wLs g a f1 f10 f11) s.heap.size) (wLs g a (up (lvT f1 (61 + 5 * r + 0) (61 + 5 * k + 1)) (61 + 5 * k + 1) ((lvT f1 (61 + 5 * r + 0) (61 + 5 * k + 1)) (61 + 5 * (k + 1) + 1))) f10 f11) := hD
        have hc4 : (up (lvT f1 (61 + 5 * r + 0) (61 + 5 * k + 1)) (61 + 5 * k + 1) ((lvT f1 (61 + 5 * r + 0) (61 + 5 * k + 1)) (61 + 5 * (k + 1) + 1))) = (lvT f1 (61 + 5 * r + 0) (61 + 5 * k + 2)) := lvT_T f1 (by omega) (by omega) (by omega)
        have hP := Eq.mp (congrArg (fun z9 => va_P g.1 vwCl (wLs g a z9 f10 f11) H) hc4) hP
        have hD := Eq.mp (congrArg (fun z9 => va_D (va_A (wLs g a f1 f10 f11) s.heap.size) (wLs g a z9 f10 f11)) hc4) hD
        have hP : va_P g.1 vwCl (wLs g a (lvT f1 (61 + 5 * r + 0) (61 + 5 * k + 2)) f10 f11) H := hP
        have hD : va_D (va_A (wLs g a f1 f10 f11) s.heap.size) (wLs g a (lvT f1 (61 + 5 * r + 0) (61 + 5 * k + 2)) f10 f11) := hD
        refine lv_aload_n hx hb dX1_removeRange_40 rfl (lv_at hl 1 rfl) ?_
        refine xg_X1 hx hb hts hown hK hP 0 rfl 9 (by decide) fk_X1_30 (v := .ref (a 7)) rfl dX1_removeRange_41 ?_
        refine lv_iload_n hx hb dX1_removeRange_44 rfl (lv_at hl 0 rfl) ?_
        refine lv_aload_n hx hb dX1_removeRange_45 rfl (lv_at hl 1 rfl) ?_
        refine xg_X1 hx hb hts hown hK hP 0 rfl 9 (by decide) fk_X1_30 (v := .ref (a 7)) rfl dX1_removeRange_46 ?_
        refine lv_iload_n hx hb dX1_removeRange_49 rfl (lv_at hl 0 rfl) ?_
        refine lv_iconst (v := iI (1)) hx hb dX1_removeRange_50 (by decide) ?_
        refine xi_add hx hb dX1_removeRange_51 ?_
        refine xi_alz hx hb hK hP 7 (s0 := lvT f1 (61 + 5 * r + 0) (61 + 5 * k + 2)) rfl (i := k + 1) ⟨by omega, by omega⟩ rfl dX1_removeRange_52 ?_
        refine xi_ast hx hb hK hP hD hS 7 (f := pz 2 (lvT f1 (61 + 5 * r + 0) (61 + 5 * k + 2))) rfl (i := k) (v := (lvT f1 (61 + 5 * r + 0) (61 + 5 * k + 2)) (61 + 5 * (k + 1) + 2)) ⟨by omega, by omega⟩ rfl dX1_removeRange_53 (fun H locs hP hD hS => ?_)
        have hP := Eq.mp (congrArg (fun z9 : va_W => va_P g.1 vwCl (z9) H) (Ls_hastes (g := g) (a := a) (s := lvT f1 (61 + 5 * r + 0) (61 + 5 * k + 2)) (x10 := f10) (x11 := f11) (i := k) (v := (lvT f1 (61 + 5 * r + 0) (61 + 5 * k + 2)) (61 + 5 * (k + 1) + 2)) ⟨by omega, by omega⟩)) hP
        have hD := Eq.mp (congrArg (fun z9 : va_W => va_D (va_A (wLs g a f1 f10 f11) s.heap.size) (z9)) (Ls_hastes (g := g) (a := a) (s := lvT f1 (61 + 5 * r + 0) (61 + 5 * k + 2)) (x10 := f10) (x11 := f11) (i := k) (v := (lvT f1 (61 + 5 * r + 0) (61 + 5 * k + 2)) (61 + 5 * (k + 1) + 2)) ⟨by omega, by omega⟩)) hD
        have hP : va_P g.1 vwCl (wLs g a (up (lvT f1 (61 + 5 * r + 0) (61 + 5 * k + 2)) (61 + 5 * k + 2) ((lvT f1 (61 + 5 * r + 0) (61 + 5 * k + 2)) (61 + 5 * (k + 1) + 2))) f10 f11) H := hP
        have hD : va_D (va_A (wLs g a f1 f10 f11) s.heap.size) (wLs g a (up (lvT f1 (61 + 5 * r + 0) (61 + 5 * k + 2)) (61 + 5 * k + 2) ((lvT f1 (61 + 5 * r + 0) (61 + 5 * k + 2)) (61 + 5 * (k + 1) + 2))) f10 f11) := hD
        have hc5 : (up (lvT f1 (61 + 5 * r + 0) (61 + 5 * k + 2)) (61 + 5 * k + 2) ((lvT f1 (61 + 5 * r + 0) (61 + 5 * k + 2)) (61 + 5 * (k + 1) + 2))) = (lvT f1 (61 + 5 * r + 0) (61 + 5 * k + 3)) := lvT_T f1 (by omega) (by omega) (by omega)
        have hP := Eq.mp (congrArg (fun z9 => va_P g.1 vwCl (wLs g a z9 f10 f11) H) hc5) hP
        have hD := Eq.mp (congrArg (fun z9 => va_D (va_A (wLs g a f1 f10 f11) s.heap.size) (wLs g a z9 f10 f11)) hc5) hD
        have hP : va_P g.1 vwCl (wLs g a (lvT f1 (61 + 5 * r + 0) (61 + 5 * k + 3)) f10 f11) H := hP
        have hD : va_D (va_A (wLs g a f1 f10 f11) s.heap.size) (wLs g a (lvT f1 (61 + 5 * r + 0) (61 + 5 * k + 3)) f10 f11) := hD
        refine lv_aload_n hx hb dX1_removeRange_54 rfl (lv_at hl 1 rfl) ?_
        refine xg_X1 hx hb hts hown hK hP 0 rfl 10 (by decide) fk_X1_33 (v := .ref (a 8)) rfl dX1_removeRange_55 ?_
        refine lv_iload_n hx hb dX1_removeRange_58 rfl (lv_at hl 0 rfl) ?_
        refine lv_aload_n hx hb dX1_removeRange_59 rfl (lv_at hl 1 rfl) ?_
        refine xg_X1 hx hb hts hown hK hP 0 rfl 10 (by decide) fk_X1_33 (v := .ref (a 8)) rfl dX1_removeRange_60 ?_
        refine lv_iload_n hx hb dX1_removeRange_63 rfl (lv_at hl 0 rfl) ?_
        refine lv_iconst (v := iI (1)) hx hb dX1_removeRange_64 (by decide) ?_
        refine xi_add hx hb dX1_removeRange_65 ?_
        refine xi_alz hx hb hK hP 8 (s0 := lvT f1 (61 + 5 * r + 0) (61 + 5 * k + 3)) rfl (i := k + 1) ⟨by omega, by omega⟩ rfl dX1_removeRange_66 ?_
        refine xi_ast hx hb hK hP hD hS 8 (f := pz 3 (lvT f1 (61 + 5 * r + 0) (61 + 5 * k + 3))) rfl (i := k) (v := (lvT f1 (61 + 5 * r + 0) (61 + 5 * k + 3)) (61 + 5 * (k + 1) + 3)) ⟨by omega, by omega⟩ rfl dX1_removeRange_67 (fun H locs hP hD hS => ?_)
        have hP := Eq.mp (congrArg (fun z9 : va_W => va_P g.1 vwCl (z9) H) (Ls_steps (g := g) (a := a) (s := lvT f1 (61 + 5 * r + 0) (61 + 5 * k + 3)) (x10 := f10) (x11 := f11) (i := k) (v := (lvT f1 (61 + 5 * r + 0) (61 + 5 * k + 3)) (61 + 5 * (k + 1) + 3)) ⟨by omega, by omega⟩)) hP
        have hD := Eq.mp (congrArg (fun z9 : va_W => va_D (va_A (wLs g a f1 f10 f11) s.heap.size) (z9)) (Ls_steps (g := g) (a := a) (s := lvT f1 (61 + 5 * r + 0) (61 + 5 * k + 3)) (x10 := f10) (x11 := f11) (i := k) (v := (lvT f1 (61 + 5 * r + 0) (61 + 5 * k + 3)) (61 + 5 * (k + 1) + 3)) ⟨by omega, by omega⟩)) hD
        have hP : va_P g.1 vwCl (wLs g a (up (lvT f1 (61 + 5 * r + 0) (61 + 5 * k + 3)) (61 + 5 * k + 3) ((lvT f1 (61 + 5 * r + 0) (61 + 5 * k + 3)) (61 + 5 * (k + 1) + 3))) f10 f11) H := hP
        have hD : va_D (va_A (wLs g a f1 f10 f11) s.heap.size) (wLs g a (up (lvT f1 (61 + 5 * r + 0) (61 + 5 * k + 3)) (61 + 5 * k + 3) ((lvT f1 (61 + 5 * r + 0) (61 + 5 * k + 3)) (61 + 5 * (k + 1) + 3))) f10 f11) := hD
        have hc6 : (up (lvT f1 (61 + 5 * r + 0) (61 + 5 * k + 3)) (61 + 5 * k + 3) ((lvT f1 (61 + 5 * r + 0) (61 + 5 * k + 3)) (61 + 5 * (k + 1) + 3))) = (lvT f1 (61 + 5 * r + 0) (61 + 5 * k + 4)) := lvT_T f1 (by omega) (by omega) (by omega)
        have hP := Eq.mp (congrArg (fun z9 => va_P g.1 vwCl (wLs g a z9 f10 f11) H) hc6) hP
        have hD := Eq.mp (congrArg (fun z9 => va_D (va_A (wLs g a f1 f10 f11) s.heap.size) (wLs g a z9 f10 f11)) hc6) hD
        have hP : va_P g.1 vwCl (wLs g a (lvT f1 (61 + 5 * r + 0) (61 + 5 * k + 4)) f10 f11) H := hP
        have hD : va_D (va_A (wLs g a f1 f10 f11) s.heap.size) (wLs g a (lvT f1 (61 + 5 * r + 0) (61 + 5 * k + 4)) f10 f11) := hD
        refine lv_aload_n hx hb dX1_removeRange_68 rfl (lv_at hl 1 rfl) ?_
        refine xg_X1 hx hb hts hown hK hP 0 rfl 11 (by decide) fk_X1_36 (v := .ref (a 9)) rfl dX1_removeRange_69 ?_
        refine lv_iload_n hx hb dX1_removeRange_72 rfl (lv_at hl 0 rfl) ?_
        refine lv_aload_n hx hb dX1_removeRange_73 rfl (lv_at hl 1 rfl) ?_
        refine xg_X1 hx hb hts hown hK hP 0 rfl 11 (by decide) fk_X1_36 (v := .ref (a 9)) rfl dX1_removeRange_74 ?_
        refine lv_iload_n hx hb dX1_removeRange_77 rfl (lv_at hl 0 rfl) ?_
        refine lv_iconst (v := iI (1)) hx hb dX1_removeRange_78 (by decide) ?_
        refine xi_add hx hb dX1_removeRange_79 ?_
        refine xi_alz hx hb hK hP 9 (s0 := lvT f1 (61 + 5 * r + 0) (61 + 5 * k + 4)) rfl (i := k + 1) ⟨by omega, by omega⟩ rfl dX1_removeRange_80 ?_
        refine xi_ast hx hb hK hP hD hS 9 (f := pz 4 (lvT f1 (61 + 5 * r + 0) (61 + 5 * k + 4))) rfl (i := k) (v := (lvT f1 (61 + 5 * r + 0) (61 + 5 * k + 4)) (61 + 5 * (k + 1) + 4)) ⟨by omega, by omega⟩ rfl dX1_removeRange_81 (fun H locs hP hD hS => ?_)
        have hP := Eq.mp (congrArg (fun z9 : va_W => va_P g.1 vwCl (z9) H) (Ls_waits (g := g) (a := a) (s := lvT f1 (61 + 5 * r + 0) (61 + 5 * k + 4)) (x10 := f10) (x11 := f11) (i := k) (v := (lvT f1 (61 + 5 * r + 0) (61 + 5 * k + 4)) (61 + 5 * (k + 1) + 4)) ⟨by omega, by omega⟩)) hP
        have hD := Eq.mp (congrArg (fun z9 : va_W => va_D (va_A (wLs g a f1 f10 f11) s.heap.size) (z9)) (Ls_waits (g := g) (a := a) (s := lvT f1 (61 + 5 * r + 0) (61 + 5 * k + 4)) (x10 := f10) (x11 := f11) (i := k) (v := (lvT f1 (61 + 5 * r + 0) (61 + 5 * k + 4)) (61 + 5 * (k + 1) + 4)) ⟨by omega, by omega⟩)) hD
        have hP : va_P g.1 vwCl (wLs g a (up (lvT f1 (61 + 5 * r + 0) (61 + 5 * k + 4)) (61 + 5 * k + 4) ((lvT f1 (61 + 5 * r + 0) (61 + 5 * k + 4)) (61 + 5 * (k + 1) + 4))) f10 f11) H := hP
        have hD : va_D (va_A (wLs g a f1 f10 f11) s.heap.size) (wLs g a (up (lvT f1 (61 + 5 * r + 0) (61 + 5 * k + 4)) (61 + 5 * k + 4) ((lvT f1 (61 + 5 * r + 0) (61 + 5 * k + 4)) (61 + 5 * (k + 1) + 4))) f10 f11) := hD
        have hc7 : (up (lvT f1 (61 + 5 * r + 0) (61 + 5 * k + 4)) (61 + 5 * k + 4) ((lvT f1 (61 + 5 * r + 0) (61 + 5 * k + 4)) (61 + 5 * (k + 1) + 4))) = (lvT f1 (61 + 5 * r + 0) (61 + 5 * (k + 1) + 0)) := lvT_T f1 (by omega) (by omega) (by omega)
        have hP := Eq.mp (congrArg (fun z9 => va_P g.1 vwCl (wLs g a z9 f10 f11) H) hc7) hP
        have hD := Eq.mp (congrArg (fun z9 => va_D (va_A (wLs g a f1 f10 f11) s.heap.size) (wLs g a z9 f10 f11)) hc7) hD
        have hP : va_P g.1 vwCl (wLs g a (lvT f1 (61 + 5 * r + 0) (61 + 5 * (k + 1) + 0)) f10 f11) H := hP
        have hD : va_D (va_A (wLs g a f1 f10 f11) s.heap.size) (wLs g a (lvT f1 (61 + 5 * r + 0) (61 + 5 * (k + 1) + 0)) f10 f11) := hD
        refine xi_inc (lv' := [(2, .int (iI (k + 1))), (0, .ref (a 0)), (1, .int (iI r))]) hx hb dX1_removeRange_82 hl (k := 0) rfl (by decide) rfl (fun ls hl => ?_)
        refine lv_goto (tgt := 2) hx hb dX1_removeRange_85 (by decide) ?_
        have hq8 : (lvT f1 (61 + 5 * r + 0) (61 + 5 * (k + 1) + 0)) = (lvT f1 (61 + 5 * r + 0) (61 + 5 * (k + 1) + 0)) := by rfl
        have hP := Eq.mp (congrArg (fun z9 => va_P g.1 vwCl (wLs g a z9 f10 f11) H) hq8) hP
        have hD := Eq.mp (congrArg (fun z9 => va_D (va_A (wLs g a f1 f10 f11) s.heap.size) (wLs g a z9 f10 f11)) hq8) hD
        exact ih2 (k + 1) (by omega) (by omega) ls (lv_sub hl [0, 1, 2] rfl) H locs hP hD hS
  have hq9 : f1 = (lvT f1 (61 + 5 * r + 0) (61 + 5 * r + 0)) := lvT_0 f1 (61 + 5 * r + 0)
  have hP := Eq.mp (congrArg (fun z9 => va_P g.1 vwCl (wLs g a z9 f10 f11) s.heap) hq9) hP
  have hD := Eq.mp (congrArg (fun z9 => va_D (va_A (wLs g a f1 f10 f11) s.heap.size) (wLs g a z9 f10 f11)) hq9) hD
  exact lp2 (8 + 1) r (by omega) (by omega) ls (lv_sub hl [0, 1, 2] rfl) s.heap [] hP hD hS
abbrev rm_X1_rangeAhead : Room := { frames := 1, cells := 0, slots := 0, locals := 22 }
set_option maxRecDepth 100000 in
set_option maxHeartbeats 4000000 in
theorem c_X1_rangeAhead (l : Launch) (g : Gd) (a : Nat → Nat) (f1 : Int → Int) (f10 : Int → Int) (f11 : Int → Int) (r : Int) (h1 : Inv f1) (h2 : 0 ≤ r ∧ r < f1 1) : Met l yX1_rangeAhead (wsOf yX1_rangeAhead cX1_rangeAhead 3 (some .int)) rm_X1_rangeAhead (PX g (va_P g.1 vwCl (wLs g a f1 f10 f11)) [.ref (a 0), .int (iI r)]) (vp_Si (fun r9 => r9 = iI (ahd f1 r))) 0 0 (fun _ => False) := by
  refine me (g := g) (by decide) rfl ?_
  intro pq eq s mq below meth cq C hnm hB ls hl
  obtain ⟨hx, hb, hr, hml, hown, hts, hlocks, hK⟩ := C
  have hown : s.vm.findClass RX1 = some mq.cls := hown
  have hl : lv_has ls 3 [(0, .ref (a 0)), (1, .int (iI r))] := hl
  have hP : va_P g.1 vwCl (wLs g a f1 f10 f11) s.heap := hB
  have hI := h1
  have hn := hI.num
  have hs := hI.sea
  have hc := hI.ran r h2.1 h2.2
  have hbb := bh_b hc.2.1
  refine lv_aload_n hx hb dX1_rangeAhead_0 rfl (lv_at hl 0 rfl) ?_
  refine xg_X1 hx hb hts hown hK hP 0 rfl 8 (by decide) fk_X1_27 (v := .ref (a 6)) rfl dX1_rangeAhead_1 ?_
  refine lv_iload_n hx hb dX1_rangeAhead_4 rfl (lv_at hl 1 rfl) ?_
  refine xi_alz hx hb hK hP 6 (s0 := f1) rfl (i := r) ⟨by omega, by omega⟩ rfl dX1_rangeAhead_5 ?_
  refine xu_i (x := iI (bh (f1 (61 + 5 * r + 1)))) (rSN (rest := []) hx hb hml hown hts hK hl (c_X4_nextCell l g (f1 (61 + 5 * r + 1)) (show 0 ≤ (f1 (61 + 5 * r + 1)) ∧ (f1 (61 + 5 * r + 1)) ≤ 23 from by omega)) lk_X1_65 trivial rfl rfl rfl (Rm.of rfl) rfl rfl dX1_rangeAhead_6) ?_
  refine lv_istore_n (lv' := [(2, .int (iI (bh (f1 (61 + 5 * r + 1))))), (0, .ref (a 0)), (1, .int (iI r))]) hx hb dX1_rangeAhead_9 rfl hl (by decide) rfl (fun ls hl => ?_)
  refine lv_aload_n hx hb dX1_rangeAhead_10 rfl (lv_at hl 1 rfl) ?_
  refine lv_iload_n hx hb dX1_rangeAhead_11 rfl (lv_at hl 0 rfl) ?_
  refine xu_b (P := opn f1 (bh (f1 (61 + 5 * r + 1)))) (rV (rest := []) hx hb hml hown hts hK hl (c_X1_isOpen l g a f1 f10 f11 (bh (f1 (61 + 5 * r + 1))) (show Inv f1 from h1) (show 0 ≤ (bh (f1 (61 + 5 * r + 1))) ∧ (bh (f1 (61 + 5 * r + 1))) < 24 from by omega)) lk_X1_68 hP (va_recv hK.1 hP (ci := 1) (q0 := 0) rfl rfl) rfl rfl rfl (Rm.of rfl) rfl rfl dX1_rangeAhead_12) (fun z2 => ?_) (fun z2 => ?_)
  · refine xi_zf_eq hx hb ⟨by decide, by decide⟩ (by decide) dX1_rangeAhead_15 ⟨26, by decide⟩ ?_
    refine lv_aload_n hx hb dX1_rangeAhead_18 rfl (lv_at hl 1 rfl) ?_
    refine lv_iload_n hx hb dX1_rangeAhead_19 rfl (lv_at hl 0 rfl) ?_
    refine xu_i (x := iI (who f1 (bh (f1 (61 + 5 * r + 1))))) (rV (rest := []) hx hb hml hown hts hK hl (c_X1_rangeIn l g a f1 f10 f11 (bh (f1 (61 + 5 * r + 1))) (show Inv f1 from h1) (show IR (bh (f1 (61 + 5 * r + 1))) from ⟨by omega, by omega⟩)) lk_X1_61 hP (va_recv hK.1 hP (ci := 1) (q0 := 0) rfl rfl) rfl rfl rfl (Rm.of rfl) rfl rfl dX1_rangeAhead_20) ?_
    refine lv_goto (tgt := 27) hx hb dX1_rangeAhead_23 (by decide) ?_
    exact W.iret hx hb hr (fun t ht hW => ⟨_, rfl, congrArg iI (by unfold ahd; first | rw [if_pos (by assumption)] | rw [if_neg (by assumption)]), ht⟩) (fun q h => by cases h) dX1_rangeAhead_27
  · refine xi_zt_eq (tgt := 26) hx hb ⟨by decide, by decide⟩ (by decide) dX1_rangeAhead_15 (by decide) ?_
    refine lv_iconst (v := iI (-1)) hx hb dX1_rangeAhead_26 (by decide) ?_
    exact W.iret hx hb hr (fun t ht hW => ⟨_, rfl, congrArg iI (by unfold ahd; first | rw [if_pos (by assumption)] | rw [if_neg (by assumption)]), ht⟩) (fun q h => by cases h) dX1_rangeAhead_27
abbrev rm_X1_otherTwins : Room := { frames := 0, cells := 0, slots := 0, locals := 0 }
set_option maxRecDepth 100000 in
set_option maxHeartbeats 4000000 in
theorem c_X1_otherTwins (l : Launch) (g : Gd) (a : Nat → Nat) (f1 : Int → Int) (f10 : Int → Int) (f11 : Int → Int) (r : Int) (h1 : Inv f1) (h2 : 0 ≤ r ∧ r < f1 1) (h3 : f1 (61 + 5 * r + 0) = 5) : Met l yX1_otherTwins (wsOf yX1_otherTwins cX1_otherTwins 4 (some .int)) rm_X1_otherTwins (PX g (va_P g.1 vwCl (wLs g a f1 f10 f11)) [.ref (a 0), .int (iI r)]) (vp_Si (fun r9 => r9 = iI (twins f1 - 1))) 0 0 (fun _ => False) := by
  refine me (g := g) (by decide) rfl ?_
  intro pq eq s mq below meth cq C hnm hB ls hl
  obtain ⟨hx, hb, hr, hml, hown, hts, hlocks, hK⟩ := C
  have hown : s.vm.findClass RX1 = some mq.cls := hown
  have hl : lv_has ls 4 [(0, .ref (a 0)), (1, .int (iI r))] := hl
  have hP : va_P g.1 vwCl (wLs g a f1 f10 f11) s.heap := hB
  have hI := h1
  have hn := hI.num
  have hs := hI.sea
  refine lv_iconst (v := iI (0)) hx hb dX1_otherTwins_0 (by decide) ?_
  refine lv_istore_n (lv' := [(2, .int (iI 0)), (0, .ref (a 0)), (1, .int (iI r))]) hx hb dX1_otherTwins_1 rfl hl (by decide) rfl (fun ls hl => ?_)
  refine lv_iconst (v := iI (0)) hx hb dX1_otherTwins_2 (by decide) ?_
  refine lv_istore_n (lv' := [(3, .int (iI 0)), (2, .int (iI 0)), (0, .ref (a 0)), (1, .int (iI r))]) hx hb dX1_otherTwins_3 rfl hl (by decide) rfl (fun ls hl => ?_)
  have lp4 : ∀ (n4 : Nat) (k : Nat), ((k : Int) ≤ f1 1) → 8 - k < n4 → ∀ ls : Array Slot, lv_has ls 4 [(3, .int (iI (k : Int))), (2, .int (iI (twT f1 k - (if r < (k : Int) then 1 else 0)))), (0, .ref (a 0)), (1, .int (iI r))] → W pq l eq rm_X1_otherTwins s mq [.ref (a 0), .int (iI r)].toArray below meth cq s.heap [] 0 0 (MQ below (vp_Si (fun r9 => r9 = iI (twins f1 - 1))) [.ref (a 0), .int (iI r)].toArray s 0 0 (fun _ => False)) (F0 mq 4 ls []) := by
    intro n4
    induction n4 with
    | zero => intro k i4_1 hm; exact absurd hm (Nat.not_lt_zero _)
    | succ n4 ih4 =>
      intro k i4_1 hm4 ls hl
      refine lv_iload_n hx hb dX1_otherTwins_4 rfl (lv_at hl 0 rfl) ?_
      refine lv_aload_n hx hb dX1_otherTwins_5 rfl (lv_at hl 2 rfl) ?_
      refine xg_X1 hx hb hts hown hK hP 0 rfl 1 (by decide) fk_X1_49 (v := .int (iI (f1 1))) rfl dX1_otherTwins_6 ?_
      refine xi_c_ge (tgt := 36) hx hb ⟨by omega, by omega⟩ ⟨by omega, by omega⟩ dX1_otherTwins_9 (by decide) (fun z1 => ?_) (fun z1 => ?_)
      · refine lv_iload_n hx hb dX1_otherTwins_36 rfl (lv_at hl 1 rfl) ?_
        exact W.iret hx hb hr (fun t ht hW => ⟨_, rfl, congrArg iI (by rw [if_pos (by omega), show k = (f1 1).toNat by omega]; rfl), ht⟩) (fun q h => by cases h) dX1_otherTwins_37
      · have hc := hI.ran (k : Int) (by omega) (by omega)
        refine lv_iload_n hx hb dX1_otherTwins_12 rfl (lv_at hl 0 rfl) ?_
        refine lv_iload_n hx hb dX1_otherTwins_13 rfl (lv_at hl 3 rfl) ?_
        refine xi_c_eq (tgt := 30) hx hb ⟨by omega, by omega⟩ ⟨by omega, by omega⟩ dX1_otherTwins_14 (by decide) (fun z2 => ?_) (fun z2 => ?_)
        · refine xi_inc (lv' := [(3, .int (iI ((k : Int) + 1))), (2, .int (iI (twT f1 k - (if r < (k : Int) then 1 else 0)))), (0, .ref (a 0)), (1, .int (iI r))]) hx hb dX1_otherTwins_30 hl (k := 0) rfl (by decide) rfl (fun ls hl => ?_)
          refine lv_goto (tgt := 4) hx hb dX1_otherTwins_33 (by decide) ?_
          have hq3 : ((k : Int) + 1) = ((k + 1) : Int) := by omega
          have hq4 : (twT f1 k - (if r < (k : Int) then 1 else 0)) = (twT f1 (k + 1) - (if r < ((k + 1) : Int) then 1 else 0)) := by simp only [twT]; rcases Int.lt_trichotomy r (k : Int) with hq | hq | hq; (rw [if_pos hq, if_pos (show r < (k : Int) + 1 by omega)]; first | (exfalso; omega) | (rw [if_pos (by assumption)]; omega) | (rw [if_neg (by assumption)]; omega)); (rw [if_neg (show ¬ r < (k : Int) by omega), if_pos (show r < (k : Int) + 1 by omega), if_pos (show f1 (61 + 5 * (k : Int) + 0) = 5 by rw [← hq]; exact h3)]; omega); (rw [if_neg (show ¬ r < (k : Int) by omega), if_neg (show ¬ r < (k : Int) + 1 by omega)]; first | (exfalso; omega) | (rw [if_pos (by assumption)]; omega) | (rw [if_neg (by assumption)]; omega))
          have hl : lv_has ls 4 [(3, .int (iI ((k : Int) + 1))), (2, .int (iI (twT f1 k - (if r < (k : Int) then 1 else 0)))), (0, .ref (a 0)), (1, .int (iI r))] := lv_sub hl [0, 1, 2, 3] rfl
          have hl := Eq.mp (congrArg (fun z9 => lv_has ls 4 [(3, .int (iI z9)), (2, .int (iI (twT f1 k - (if r < (k : Int) then 1 else 0)))), (0, .ref (a 0)), (1, .int (iI r))]) hq3) hl
          have hl := Eq.mp (congrArg (fun z9 => lv_has ls 4 [(3, .int (iI ((k + 1) : Int))), (2, .int (iI z9)), (0, .ref (a 0)), (1, .int (iI r))]) hq4) hl
          exact ih4 (k + 1) (by omega) (by omega) ls hl
        · refine lv_aload_n hx hb dX1_otherTwins_17 rfl (lv_at hl 2 rfl) ?_
          refine xg_X1 hx hb hts hown hK hP 0 rfl 7 (by decide) fk_X1_24 (v := .ref (a 5)) rfl dX1_otherTwins_18 ?_
          refine lv_iload_n hx hb dX1_otherTwins_21 rfl (lv_at hl 0 rfl) ?_
          refine xi_alz hx hb hK hP 5 (s0 := f1) rfl (i := (k : Int)) ⟨by omega, by omega⟩ rfl dX1_otherTwins_22 ?_
          refine lv_iconst (v := iI (5)) hx hb dX1_otherTwins_23 (by decide) ?_
          refine xi_c_ne (tgt := 30) hx hb ⟨by omega, by omega⟩ ⟨by decide, by decide⟩ dX1_otherTwins_24 (by decide) (fun z5 => ?_) (fun z5 => ?_)
          · refine xi_inc (lv' := [(3, .int (iI ((k : Int) + 1))), (2, .int (iI (twT f1 k - (if r < (k : Int) then 1 else 0)))), (0, .ref (a 0)), (1, .int (iI r))]) hx hb dX1_otherTwins_30 hl (k := 0) rfl (by decide) rfl (fun ls hl => ?_)
            refine lv_goto (tgt := 4) hx hb dX1_otherTwins_33 (by decide) ?_
            have hq6 : ((k : Int) + 1) = ((k + 1) : Int) := by omega
            have hq7 : (twT f1 k - (if r < (k : Int) then 1 else 0)) = (twT f1 (k + 1) - (if r < ((k + 1) : Int) then 1 else 0)) := by simp only [twT]; rcases Int.lt_trichotomy r (k : Int) with hq | hq | hq; (rw [if_pos hq, if_pos (show r < (k : Int) + 1 by omega)]; first | (exfalso; omega) | (rw [if_pos (by assumption)]; omega) | (rw [if_neg (by assumption)]; omega)); (rw [if_neg (show ¬ r < (k : Int) by omega), if_pos (show r < (k : Int) + 1 by omega), if_pos (show f1 (61 + 5 * (k : Int) + 0) = 5 by rw [← hq]; exact h3)]; omega); (rw [if_neg (show ¬ r < (k : Int) by omega), if_neg (show ¬ r < (k : Int) + 1 by omega)]; first | (exfalso; omega) | (rw [if_pos (by assumption)]; omega) | (rw [if_neg (by assumption)]; omega))
            have hl : lv_has ls 4 [(3, .int (iI ((k : Int) + 1))), (2, .int (iI (twT f1 k - (if r < (k : Int) then 1 else 0)))), (0, .ref (a 0)), (1, .int (iI r))] := lv_sub hl [0, 1, 2, 3] rfl
            have hl := Eq.mp (congrArg (fun z9 => lv_has ls 4 [(3, .int (iI z9)), (2, .int (iI (twT f1 k - (if r < (k : Int) then 1 else 0)))), (0, .ref (a 0)), (1, .int (iI r))]) hq6) hl
            have hl := Eq.mp (congrArg (fun z9 => lv_has ls 4 [(3, .int (iI ((k + 1) : Int))), (2, .int (iI z9)), (0, .ref (a 0)), (1, .int (iI r))]) hq7) hl
            exact ih4 (k + 1) (by omega) (by omega) ls hl
          · refine xi_inc (lv' := [(2, .int (iI (twT f1 k - (if r < (k : Int) then 1 else 0) + 1))), (3, .int (iI (k : Int))), (0, .ref (a 0)), (1, .int (iI r))]) hx hb dX1_otherTwins_27 hl (k := 1) rfl (by decide) rfl (fun ls hl => ?_)
            refine xi_inc (lv' := [(3, .int (iI ((k : Int) + 1))), (2, .int (iI (twT f1 k - (if r < (k : Int) then 1 else 0) + 1))), (0, .ref (a 0)), (1, .int (iI r))]) hx hb dX1_otherTwins_30 hl (k := 1) rfl (by decide) rfl (fun ls hl => ?_)
            refine lv_goto (tgt := 4) hx hb dX1_otherTwins_33 (by decide) ?_
            have hq8 : ((k : Int) + 1) = ((k + 1) : Int) := by omega
            have hq9 : (twT f1 k - (if r < (k : Int) then 1 else 0) + 1) = (twT f1 (k + 1) - (if r < ((k + 1) : Int) then 1 else 0)) := by simp only [twT]; rcases Int.lt_trichotomy r (k : Int) with hq | hq | hq; (rw [if_pos hq, if_pos (show r < (k : Int) + 1 by omega)]; first | (exfalso; omega) | (rw [if_pos (by assumption)]; omega) | (rw [if_neg (by assumption)]; omega)); (rw [if_neg (show ¬ r < (k : Int) by omega), if_pos (show r < (k : Int) + 1 by omega), if_pos (show f1 (61 + 5 * (k : Int) + 0) = 5 by rw [← hq]; exact h3)]; omega); (rw [if_neg (show ¬ r < (k : Int) by omega), if_neg (show ¬ r < (k : Int) + 1 by omega)]; first | (exfalso; omega) | (rw [if_pos (by assumption)]; omega) | (rw [if_neg (by assumption)]; omega))
            have hl : lv_has ls 4 [(3, .int (iI ((k : Int) + 1))), (2, .int (iI (twT f1 k - (if r < (k : Int) then 1 else 0) + 1))), (0, .ref (a 0)), (1, .int (iI r))] := lv_sub hl [0, 1, 2, 3] rfl
            have hl := Eq.mp (congrArg (fun z9 => lv_has ls 4 [(3, .int (iI z9)), (2, .int (iI (twT f1 k - (if r < (k : Int) then 1 else 0) + 1))), (0, .ref (a 0)), (1, .int (iI r))]) hq8) hl
            have hl := Eq.mp (congrArg (fun z9 => lv_has ls 4 [(3, .int (iI ((k + 1) : Int))), (2, .int (iI z9)), (0, .ref (a 0)), (1, .int (iI r))]) hq9) hl
            exact ih4 (k + 1) (by omega) (by omega) ls hl
  have hq10 : 0 = (0 : Int) := rfl
  have hq11 : 0 = (twT f1 0 - (if r < (0 : Int) then 1 else 0)) := by rw [if_neg (by omega)]; rfl
  have hl : lv_has ls 4 [(3, .int (iI 0)), (2, .int (iI 0)), (0, .ref (a 0)), (1, .int (iI r))] := lv_sub hl [0, 1, 2, 3] rfl
  have hl := Eq.mp (congrArg (fun z9 => lv_has ls 4 [(3, .int (iI z9)), (2, .int (iI 0)), (0, .ref (a 0)), (1, .int (iI r))]) hq10) hl
  have hl := Eq.mp (congrArg (fun z9 => lv_has ls 4 [(3, .int (iI (0 : Int))), (2, .int (iI z9)), (0, .ref (a 0)), (1, .int (iI r))]) hq11) hl
  exact lp4 (8 + 1) 0 (by omega) (by omega) ls hl
abbrev rm_X1_strideOf : Room := { frames := 1, cells := 0, slots := 0, locals := 23 }
set_option maxRecDepth 100000 in
set_option maxHeartbeats 4000000 in
theorem c_X1_strideOf (l : Launch) (g : Gd) (a : Nat → Nat) (f1 : Int → Int) (f10 : Int → Int) (f11 : Int → Int) (r : Int) (h1 : Inv f1) (h2 : 0 ≤ r ∧ r < f1 1) : Met l yX1_strideOf (wsOf yX1_strideOf cX1_strideOf 3 (some .int)) rm_X1_strideOf (PX g (va_P g.1 vwCl (wLs g a f1 f10 f11)) [.ref (a 0), .int (iI r)]) (vp_Si (fun r9 => r9 = iI (stride f1 r))) 0 0 (fun _ => False) := by
  refine me (g := g) (by decide) rfl ?_
  intro pq eq s mq below meth cq C hnm hB ls hl
  obtain ⟨hx, hb, hr, hml, hown, hts, hlocks, hK⟩ := C
  have hown : s.vm.findClass RX1 = some mq.cls := hown
  have hl : lv_has ls 3 [(0, .ref (a 0)), (1, .int (iI r))] := hl
  have hP : va_P g.1 vwCl (wLs g a f1 f10 f11) s.heap := hB
  have hI := h1
  have hn := hI.num
  have hs := hI.sea
  have hc := hI.ran r h2.1 h2.2
  have ht := twins_b hn
  refine lv_iconst (v := iI (2)) hx hb dX1_strideOf_0 (by decide) ?_
  refine lv_aload_n hx hb dX1_strideOf_1 rfl (lv_at hl 0 rfl) ?_
  refine xg_X1 hx hb hts hown hK hP 0 rfl 9 (by decide) fk_X1_30 (v := .ref (a 7)) rfl dX1_strideOf_2 ?_
  refine lv_iload_n hx hb dX1_strideOf_5 rfl (lv_at hl 1 rfl) ?_
  refine xi_alz hx hb hK hP 7 (s0 := f1) rfl (i := r) ⟨by omega, by omega⟩ rfl dX1_strideOf_6 ?_
  refine lv_iconst (v := iI (3)) hx hb dX1_strideOf_7 (by decide) ?_
  refine xi_div hx hb ⟨by omega, by omega, by omega, by omega⟩ dX1_strideOf_8 ?_
  refine xi_add hx hb dX1_strideOf_9 ?_
  refine lv_istore_n (lv' := [(2, .int (iI (2 + ((f1 (61 + 5 * r + 2)) / 3)))), (0, .ref (a 0)), (1, .int (iI r))]) hx hb dX1_strideOf_10 rfl hl (by decide) rfl (fun ls hl => ?_)
  refine lv_aload_n hx hb dX1_strideOf_11 rfl (lv_at hl 1 rfl) ?_
  refine xg_X1 hx hb hts hown hK hP 0 rfl 7 (by decide) fk_X1_24 (v := .ref (a 5)) rfl dX1_strideOf_12 ?_
  refine lv_iload_n hx hb dX1_strideOf_15 rfl (lv_at hl 2 rfl) ?_
  refine xi_alz hx hb hK hP 5 (s0 := f1) rfl (i := r) ⟨by omega, by omega⟩ rfl dX1_strideOf_16 ?_
  have hir1 : IR (f1 (61 + 5 * r + 0)) := ⟨by omega, by omega⟩
  rcases (show (f1 (61 + 5 * r + 0)) = 1 ∨ (f1 (61 + 5 * r + 0)) = 2 ∨ (f1 (61 + 5 * r + 0)) = 3 ∨ (f1 (61 + 5 * r + 0)) = 4 ∨ (f1 (61 + 5 * r + 0)) = 5 ∨ ((f1 (61 + 5 * r + 0)) < 1 ∨ 5 < (f1 (61 + 5 * r + 0))) by omega) with z1 | z1 | z1 | z1 | z1 | z1
  · refine lv_tableIn (tgt := 52) (off := 35) hx hb dX1_strideOf_17 (by rw [iI_toInt hir1, z1]; decide) (by rw [iI_toInt hir1, z1]; decide) (by rw [iI_toInt hir1, z1]; rfl) (by decide) ?_
    refine lv_iload_n hx hb dX1_strideOf_52 rfl (lv_at hl 0 rfl) ?_
    refine lv_iconst (v := iI (1)) hx hb dX1_strideOf_53 (by decide) ?_
    refine xi_add hx hb dX1_strideOf_54 ?_
    exact W.iret hx hb hr (fun t ht hW => ⟨_, rfl, congrArg iI (by first | (rw [st1 (by omega)]; done) | (rw [st1 (by omega)]; omega) | (rw [st2 (by omega)]; done) | (rw [st2 (by omega)]; omega) | (rw [st3 (by omega)]; rw [if_pos (by omega)]; done) | (rw [st3 (by omega)]; rw [if_neg (by omega)]; done) | (rw [st4 (by omega)]; done) | (rw [st4 (by omega)]; omega) | (rw [st5 (by omega)]; done) | (rw [st5 (by omega)]; omega) | (rw [st0 (by omega)]; done) | (rw [st0 (by omega)]; omega)), ht⟩) (fun q h => by cases h) dX1_strideOf_55
  · refine lv_tableIn (tgt := 56) (off := 39) hx hb dX1_strideOf_17 (by rw [iI_toInt hir1, z1]; decide) (by rw [iI_toInt hir1, z1]; decide) (by rw [iI_toInt hir1, z1]; rfl) (by decide) ?_
    refine lv_iload_n hx hb dX1_strideOf_56 rfl (lv_at hl 0 rfl) ?_
    refine lv_iconst (v := iI (2)) hx hb dX1_strideOf_57 (by decide) ?_
    refine xi_div hx hb ⟨by omega, by omega, by omega, by omega⟩ dX1_strideOf_58 ?_
    exact W.iret hx hb hr (fun t ht hW => ⟨_, rfl, congrArg iI (by first | (rw [st1 (by omega)]; done) | (rw [st1 (by omega)]; omega) | (rw [st2 (by omega)]; done) | (rw [st2 (by omega)]; omega) | (rw [st3 (by omega)]; rw [if_pos (by omega)]; done) | (rw [st3 (by omega)]; rw [if_neg (by omega)]; done) | (rw [st4 (by omega)]; done) | (rw [st4 (by omega)]; omega) | (rw [st5 (by omega)]; done) | (rw [st5 (by omega)]; omega) | (rw [st0 (by omega)]; done) | (rw [st0 (by omega)]; omega)), ht⟩) (fun q h => by cases h) dX1_strideOf_59
  · refine lv_tableIn (tgt := 60) (off := 43) hx hb dX1_strideOf_17 (by rw [iI_toInt hir1, z1]; decide) (by rw [iI_toInt hir1, z1]; decide) (by rw [iI_toInt hir1, z1]; rfl) (by decide) ?_
    refine lv_aload_n hx hb dX1_strideOf_60 rfl (lv_at hl 1 rfl) ?_
    refine xu_b (P := f1 0 % 4 < 2) (rV (rest := []) hx hb hml hown hts hK hl (c_X1_isSummer l g a f1 f10 f11 (show Inv f1 from h1)) lk_X1_72 hP (va_recv hK.1 hP (ci := 1) (q0 := 0) rfl rfl) rfl rfl rfl (Rm.of rfl) rfl rfl dX1_strideOf_61) (fun z2 => ?_) (fun z2 => ?_)
    · refine xi_zf_eq hx hb ⟨by decide, by decide⟩ (by decide) dX1_strideOf_64 ⟨71, by decide⟩ ?_
      refine lv_iload_n hx hb dX1_strideOf_67 rfl (lv_at hl 0 rfl) ?_
      refine lv_goto (tgt := 72) hx hb dX1_strideOf_68 (by decide) ?_
      exact W.iret hx hb hr (fun t ht hW => ⟨_, rfl, congrArg iI (by first | (rw [st1 (by omega)]; done) | (rw [st1 (by omega)]; omega) | (rw [st2 (by omega)]; done) | (rw [st2 (by omega)]; omega) | (rw [st3 (by omega)]; rw [if_pos (by omega)]; done) | (rw [st3 (by omega)]; rw [if_neg (by omega)]; done) | (rw [st4 (by omega)]; done) | (rw [st4 (by omega)]; omega) | (rw [st5 (by omega)]; done) | (rw [st5 (by omega)]; omega) | (rw [st0 (by omega)]; done) | (rw [st0 (by omega)]; omega)), ht⟩) (fun q h => by cases h) dX1_strideOf_72
    · refine xi_zt_eq (tgt := 71) hx hb ⟨by decide, by decide⟩ (by decide) dX1_strideOf_64 (by decide) ?_
      refine lv_iconst (v := iI (0)) hx hb dX1_strideOf_71 (by decide) ?_
      exact W.iret hx hb hr (fun t ht hW => ⟨_, rfl, congrArg iI (by first | (rw [st1 (by omega)]; done) | (rw [st1 (by omega)]; omega) | (rw [st2 (by omega)]; done) | (rw [st2 (by omega)]; omega) | (rw [st3 (by omega)]; rw [if_pos (by omega)]; done) | (rw [st3 (by omega)]; rw [if_neg (by omega)]; done) | (rw [st4 (by omega)]; done) | (rw [st4 (by omega)]; omega) | (rw [st5 (by omega)]; done) | (rw [st5 (by omega)]; omega) | (rw [st0 (by omega)]; done) | (rw [st0 (by omega)]; omega)), ht⟩) (fun q h => by cases h) dX1_strideOf_72
  · refine lv_tableIn (tgt := 73) (off := 56) hx hb dX1_strideOf_17 (by rw [iI_toInt hir1, z1]; decide) (by rw [iI_toInt hir1, z1]; decide) (by rw [iI_toInt hir1, z1]; rfl) (by decide) ?_
    refine lv_iconst (v := iI (0)) hx hb dX1_strideOf_73 (by decide) ?_
    refine lv_iload_n hx hb dX1_strideOf_74 rfl (lv_at hl 0 rfl) ?_
    refine lv_iconst (v := iI (1)) hx hb dX1_strideOf_75 (by decide) ?_
    refine xi_add hx hb dX1_strideOf_76 ?_
    refine lv_iconst (v := iI (2)) hx hb dX1_strideOf_77 (by decide) ?_
    refine xi_sub hx hb dX1_strideOf_78 ?_
    refine xj_max hx hb hml hown hts hl mk_X1_76 ⟨by decide, by decide⟩ ⟨by omega, by omega⟩ (Nat.le_of_ble_eq_true rfl) rfl (Nat.le_of_ble_eq_true rfl) (Nat.le_of_ble_eq_true rfl) dX1_strideOf_79 ?_
    rcases (show ((0 < 2 + ((f1 (61 + 5 * r + 2)) / 3) + 1 - 2) ∧ (if 0 < 2 + ((f1 (61 + 5 * r + 2)) / 3) + 1 - 2 then 2 + ((f1 (61 + 5 * r + 2)) / 3) + 1 - 2 else 0) = 2 + ((f1 (61 + 5 * r + 2)) / 3) + 1 - 2) ∨ (¬ (0 < 2 + ((f1 (61 + 5 * r + 2)) / 3) + 1 - 2) ∧ (if 0 < 2 + ((f1 (61 + 5 * r + 2)) / 3) + 1 - 2 then 2 + ((f1 (61 + 5 * r + 2)) / 3) + 1 - 2 else 0) = 0) from (if h : 0 < 2 + ((f1 (61 + 5 * r + 2)) / 3) + 1 - 2 then Or.inl ⟨h, if_pos h⟩ else Or.inr ⟨h, if_neg h⟩)) with ⟨z3, e3⟩ | ⟨z3, e3⟩
    · rw [e3]
      exact W.iret hx hb hr (fun t ht hW => ⟨_, rfl, congrArg iI (by first | (rw [st1 (by omega)]; done) | (rw [st1 (by omega)]; omega) | (rw [st2 (by omega)]; done) | (rw [st2 (by omega)]; omega) | (rw [st3 (by omega)]; rw [if_pos (by omega)]; done) | (rw [st3 (by omega)]; rw [if_neg (by omega)]; done) | (rw [st4 (by omega)]; done) | (rw [st4 (by omega)]; omega) | (rw [st5 (by omega)]; done) | (rw [st5 (by omega)]; omega) | (rw [st0 (by omega)]; done) | (rw [st0 (by omega)]; omega)), ht⟩) (fun q h => by cases h) dX1_strideOf_82
    · rw [e3]
      exact W.iret hx hb hr (fun t ht hW => ⟨_, rfl, congrArg iI (by first | (rw [st1 (by omega)]; done) | (rw [st1 (by omega)]; omega) | (rw [st2 (by omega)]; done) | (rw [st2 (by omega)]; omega) | (rw [st3 (by omega)]; rw [if_pos (by omega)]; done) | (rw [st3 (by omega)]; rw [if_neg (by omega)]; done) | (rw [st4 (by omega)]; done) | (rw [st4 (by omega)]; omega) | (rw [st5 (by omega)]; done) | (rw [st5 (by omega)]; omega) | (rw [st0 (by omega)]; done) | (rw [st0 (by omega)]; omega)), ht⟩) (fun q h => by cases h) dX1_strideOf_82
  · refine lv_tableIn (tgt := 83) (off := 66) hx hb dX1_strideOf_17 (by rw [iI_toInt hir1, z1]; decide) (by rw [iI_toInt hir1, z1]; decide) (by rw [iI_toInt hir1, z1]; rfl) (by decide) ?_
    refine lv_iload_n hx hb dX1_strideOf_83 rfl (lv_at hl 0 rfl) ?_
    refine lv_iconst (v := iI (2)) hx hb dX1_strideOf_84 (by decide) ?_
    refine xi_div hx hb ⟨by omega, by omega, by omega, by omega⟩ dX1_strideOf_85 ?_
    refine lv_aload_n hx hb dX1_strideOf_86 rfl (lv_at hl 1 rfl) ?_
    refine lv_iload_n hx hb dX1_strideOf_87 rfl (lv_at hl 2 rfl) ?_
    refine xu_i (x := iI (twins f1 - 1)) (rV (rest := [.int (iI ((2 + ((f1 (61 + 5 * r + 2)) / 3)) / 2))]) hx hb hml hown hts hK hl (c_X1_otherTwins l g a f1 f10 f11 r (show Inv f1 from h1) (show 0 ≤ r ∧ r < f1 1 from by omega) (show f1 (61 + 5 * r + 0) = 5 from (by omega))) lk_X1_82 hP (va_recv hK.1 hP (ci := 1) (q0 := 0) rfl rfl) rfl rfl rfl (Rm.of rfl) rfl rfl dX1_strideOf_88) ?_
    refine xi_add hx hb dX1_strideOf_91 ?_
    exact W.iret hx hb hr (fun t ht hW => ⟨_, rfl, congrArg iI (by first | (rw [st1 (by omega)]; done) | (rw [st1 (by omega)]; omega) | (rw [st2 (by omega)]; done) | (rw [st2 (by omega)]; omega) | (rw [st3 (by omega)]; rw [if_pos (by omega)]; done) | (rw [st3 (by omega)]; rw [if_neg (by omega)]; done) | (rw [st4 (by omega)]; done) | (rw [st4 (by omega)]; omega) | (rw [st5 (by omega)]; done) | (rw [st5 (by omega)]; omega) | (rw [st0 (by omega)]; done) | (rw [st0 (by omega)]; omega)), ht⟩) (fun q h => by cases h) dX1_strideOf_92
  · refine lv_tableOut (tgt := 93) hx hb dX1_strideOf_17 (by rw [iI_toInt hir1]; exact z1) (by decide) ?_
    refine lv_iload_n hx hb dX1_strideOf_93 rfl (lv_at hl 0 rfl) ?_
    exact W.iret hx hb hr (fun t ht hW => ⟨_, rfl, congrArg iI (by first | (rw [st1 (by omega)]; done) | (rw [st1 (by omega)]; omega) | (rw [st2 (by omega)]; done) | (rw [st2 (by omega)]; omega) | (rw [st3 (by omega)]; rw [if_pos (by omega)]; done) | (rw [st3 (by omega)]; rw [if_neg (by omega)]; done) | (rw [st4 (by omega)]; done) | (rw [st4 (by omega)]; omega) | (rw [st5 (by omega)]; done) | (rw [st5 (by omega)]; omega) | (rw [st0 (by omega)]; done) | (rw [st0 (by omega)]; omega)), ht⟩) (fun q h => by cases h) dX1_strideOf_94
abbrev rm_X1_worth : Room := { frames := 0, cells := 0, slots := 0, locals := 0 }
set_option maxRecDepth 100000 in
set_option maxHeartbeats 4000000 in
theorem c_X1_worth (l : Launch) (g : Gd) (a : Nat → Nat) (f1 : Int → Int) (f10 : Int → Int) (f11 : Int → Int) (r : Int) (h1 : 0 ≤ r ∧ r < 8) : Met l yX1_worth (wsOf yX1_worth cX1_worth 2 (some .int)) rm_X1_worth (PX g (va_P g.1 vwCl (wLs g a f1 f10 f11)) [.ref (a 0), .int (iI r)]) (vp_Si (fun r9 => r9 = iI (val f1 r))) 0 0 (fun _ => False) := by
  refine me (g := g) (by decide) rfl ?_
  intro pq eq s mq below meth cq C hnm hB ls hl
  obtain ⟨hx, hb, hr, hml, hown, hts, hlocks, hK⟩ := C
  have hown : s.vm.findClass RX1 = some mq.cls := hown
  have hl : lv_has ls 2 [(0, .ref (a 0)), (1, .int (iI r))] := hl
  have hP : va_P g.1 vwCl (wLs g a f1 f10 f11) s.heap := hB
  refine lv_iload_n hx hb dX1_worth_0 rfl (lv_at hl 1 rfl) ?_
  refine lv_aload_n hx hb dX1_worth_1 rfl (lv_at hl 0 rfl) ?_
  refine xg_X1 hx hb hts hown hK hP 0 rfl 6 (by decide) fk_X1_21 (v := .ref (a 4)) rfl dX1_worth_2 ?_
  refine lv_iconst (v := iI (0)) hx hb dX1_worth_5 (by decide) ?_
  refine xi_alq hx hb hK hP 4 (s0 := f1) rfl (i := 0) ⟨by omega, by omega⟩ rfl dX1_worth_6 ?_
  refine xi_mul hx hb dX1_worth_7 ?_
  refine lv_aload_n hx hb dX1_worth_8 rfl (lv_at hl 0 rfl) ?_
  refine xg_X1 hx hb hts hown hK hP 0 rfl 9 (by decide) fk_X1_30 (v := .ref (a 7)) rfl dX1_worth_9 ?_
  refine lv_iload_n hx hb dX1_worth_12 rfl (lv_at hl 1 rfl) ?_
  refine xi_alz hx hb hK hP 7 (s0 := f1) rfl (i := r) ⟨by omega, by omega⟩ rfl dX1_worth_13 ?_
  refine lv_aload_n hx hb dX1_worth_14 rfl (lv_at hl 0 rfl) ?_
  refine xg_X1 hx hb hts hown hK hP 0 rfl 6 (by decide) fk_X1_21 (v := .ref (a 4)) rfl dX1_worth_15 ?_
  refine lv_iconst (v := iI (1)) hx hb dX1_worth_18 (by decide) ?_
  refine xi_alq hx hb hK hP 4 (s0 := f1) rfl (i := 1) ⟨by omega, by omega⟩ rfl dX1_worth_19 ?_
  refine xi_mul hx hb dX1_worth_20 ?_
  refine xi_add hx hb dX1_worth_21 ?_
  refine lv_aload_n hx hb dX1_worth_22 rfl (lv_at hl 0 rfl) ?_
  refine xg_X1 hx hb hts hown hK hP 0 rfl 10 (by decide) fk_X1_33 (v := .ref (a 8)) rfl dX1_worth_23 ?_
  refine lv_iload_n hx hb dX1_worth_26 rfl (lv_at hl 1 rfl) ?_
  refine xi_alz hx hb hK hP 8 (s0 := f1) rfl (i := r) ⟨by omega, by omega⟩ rfl dX1_worth_27 ?_
  refine lv_aload_n hx hb dX1_worth_28 rfl (lv_at hl 0 rfl) ?_
  refine xg_X1 hx hb hts hown hK hP 0 rfl 6 (by decide) fk_X1_21 (v := .ref (a 4)) rfl dX1_worth_29 ?_
  refine lv_iconst (v := iI (2)) hx hb dX1_worth_32 (by decide) ?_
  refine xi_alq hx hb hK hP 4 (s0 := f1) rfl (i := 2) ⟨by omega, by omega⟩ rfl dX1_worth_33 ?_
  refine xi_mul hx hb dX1_worth_34 ?_
  refine xi_add hx hb dX1_worth_35 ?_
  refine lv_aload_n hx hb dX1_worth_36 rfl (lv_at hl 0 rfl) ?_
  refine xg_X1 hx hb hts hown hK hP 0 rfl 8 (by decide) fk_X1_27 (v := .ref (a 6)) rfl dX1_worth_37 ?_
  refine lv_iload_n hx hb dX1_worth_40 rfl (lv_at hl 1 rfl) ?_
  refine xi_alz hx hb hK hP 6 (s0 := f1) rfl (i := r) ⟨by omega, by omega⟩ rfl dX1_worth_41 ?_
  refine lv_aload_n hx hb dX1_worth_42 rfl (lv_at hl 0 rfl) ?_
  refine xg_X1 hx hb hts hown hK hP 0 rfl 6 (by decide) fk_X1_21 (v := .ref (a 4)) rfl dX1_worth_43 ?_
  refine lv_iconst (v := iI (3)) hx hb dX1_worth_46 (by decide) ?_
  refine xi_alq hx hb hK hP 4 (s0 := f1) rfl (i := 3) ⟨by omega, by omega⟩ rfl dX1_worth_47 ?_
  refine xi_mul hx hb dX1_worth_48 ?_
  refine xi_add hx hb dX1_worth_49 ?_
  exact W.iret hx hb hr (fun t ht hW => ⟨_, rfl, rfl, ht⟩) (fun q h => by cases h) dX1_worth_50
abbrev rm_X1_sum : Room := { frames := 0, cells := 0, slots := 0, locals := 0 }
set_option maxRecDepth 100000 in
set_option maxHeartbeats 4000000 in
theorem c_X1_sum2 (l : Launch) (g : Gd) (a : Nat → Nat) (f1 : Int → Int) (f10 : Int → Int) (f11 : Int → Int) (h1 : 0 ≤ f1 1 ∧ f1 1 ≤ 8) : Met l yX1_sum (wsOf yX1_sum cX1_sum 4 (some .int)) rm_X1_sum (PX g (va_P g.1 vwCl (wLs g a f1 f10 f11)) [.ref (a 0), .ref (a 7)]) (vp_Si (fun r9 => r9 = iI (sumA f1 2))) 0 0 (fun _ => False) := by
  refine me (g := g) (by decide) rfl ?_
  intro pq eq s mq below meth cq C hnm hB ls hl
  obtain ⟨hx, hb, hr, hml, hown, hts, hlocks, hK⟩ := C
  have hown : s.vm.findClass RX1 = some mq.cls := hown
  have hl : lv_has ls 4 [(0, .ref (a 0)), (1, .ref (a 7))] := hl
  have hP : va_P g.1 vwCl (wLs g a f1 f10 f11) s.heap := hB
  refine lv_iconst (v := iI (0)) hx hb dX1_sum_0 (by decide) ?_
  refine lv_istore_n (lv' := [(2, .int (iI 0)), (0, .ref (a 0)), (1, .ref (a 7))]) hx hb dX1_sum_1 rfl hl (by decide) rfl (fun ls hl => ?_)
  refine lv_iconst (v := iI (0)) hx hb dX1_sum_2 (by decide) ?_
  refine lv_istore_n (lv' := [(3, .int (iI 0)), (2, .int (iI 0)), (0, .ref (a 0)), (1, .ref (a 7))]) hx hb dX1_sum_3 rfl hl (by decide) rfl (fun ls hl => ?_)
  have lp4 : ∀ (n4 : Nat) (k : Nat), ((k : Int) ≤ f1 1) → 8 - k < n4 → ∀ ls : Array Slot, lv_has ls 4 [(3, .int (iI (k : Int))), (2, .int (iI (sumT f1 2 k))), (0, .ref (a 0)), (1, .ref (a 7))] → W pq l eq rm_X1_sum s mq [.ref (a 0), .ref (a 7)].toArray below meth cq s.heap [] 0 0 (MQ below (vp_Si (fun r9 => r9 = iI (sumA f1 2))) [.ref (a 0), .ref (a 7)].toArray s 0 0 (fun _ => False)) (F0 mq 4 ls []) := by
    intro n4
    induction n4 with
    | zero => intro k i4_1 hm; exact absurd hm (Nat.not_lt_zero _)
    | succ n4 ih4 =>
      intro k i4_1 hm4 ls hl
      refine lv_iload_n hx hb dX1_sum_4 rfl (lv_at hl 0 rfl) ?_
      refine lv_aload_n hx hb dX1_sum_5 rfl (lv_at hl 2 rfl) ?_
      refine xg_X1 hx hb hts hown hK hP 0 rfl 1 (by decide) fk_X1_49 (v := .int (iI (f1 1))) rfl dX1_sum_6 ?_
      refine xi_c_ge (tgt := 24) hx hb ⟨by omega, by omega⟩ ⟨by omega, by omega⟩ dX1_sum_9 (by decide) (fun z1 => ?_) (fun z1 => ?_)
      · refine lv_iload_n hx hb dX1_sum_24 rfl (lv_at hl 1 rfl) ?_
        exact W.iret hx hb hr (fun t ht hW => ⟨_, rfl, by unfold sumA; rw [show (f1 1).toNat = k by omega], ht⟩) (fun q h => by cases h) dX1_sum_25
      · refine lv_iload_n hx hb dX1_sum_12 rfl (lv_at hl 1 rfl) ?_
        refine lv_aload_n hx hb dX1_sum_13 rfl (lv_at hl 3 rfl) ?_
        refine lv_iload_n hx hb dX1_sum_14 rfl (lv_at hl 0 rfl) ?_
        refine xi_alz hx hb hK hP 7 (s0 := f1) rfl (i := (k : Int)) ⟨by omega, by omega⟩ rfl dX1_sum_15 ?_
        refine xi_add hx hb dX1_sum_16 ?_
        refine lv_istore_n (lv' := [(2, .int (iI (sumT f1 2 k + (f1 (61 + 5 * (k : Int) + 2))))), (3, .int (iI (k : Int))), (0, .ref (a 0)), (1, .ref (a 7))]) hx hb dX1_sum_17 rfl hl (by decide) rfl (fun ls hl => ?_)
        refine xi_inc (lv' := [(3, .int (iI ((k : Int) + 1))), (2, .int (iI (sumT f1 2 k + (f1 (61 + 5 * (k : Int) + 2))))), (0, .ref (a 0)), (1, .ref (a 7))]) hx hb dX1_sum_18 hl (k := 1) rfl (by decide) rfl (fun ls hl => ?_)
        refine lv_goto (tgt := 4) hx hb dX1_sum_21 (by decide) ?_
        have hq2 : ((k : Int) + 1) = ((k + 1) : Int) := by omega
        have hq3 : (sumT f1 2 k + (f1 (61 + 5 * (k : Int) + 2))) = (sumT f1 2 (k + 1)) := rfl
        have hl : lv_has ls 4 [(3, .int (iI ((k : Int) + 1))), (2, .int (iI (sumT f1 2 k + (f1 (61 + 5 * (k : Int) + 2))))), (0, .ref (a 0)), (1, .ref (a 7))] := lv_sub hl [0, 1, 2, 3] rfl
        have hl := Eq.mp (congrArg (fun z9 => lv_has ls 4 [(3, .int (iI z9)), (2, .int (iI (sumT f1 2 k + (f1 (61 + 5 * (k : Int) + 2))))), (0, .ref (a 0)), (1, .ref (a 7))]) hq2) hl
        have hl := Eq.mp (congrArg (fun z9 => lv_has ls 4 [(3, .int (iI ((k + 1) : Int))), (2, .int (iI z9)), (0, .ref (a 0)), (1, .ref (a 7))]) hq3) hl
        exact ih4 (k + 1) (by omega) (by omega) ls hl
  have hq4 : 0 = (0 : Int) := rfl
  have hq5 : 0 = (sumT f1 2 0) := rfl
  have hl : lv_has ls 4 [(3, .int (iI 0)), (2, .int (iI 0)), (0, .ref (a 0)), (1, .ref (a 7))] := lv_sub hl [0, 1, 2, 3] rfl
  have hl := Eq.mp (congrArg (fun z9 => lv_has ls 4 [(3, .int (iI z9)), (2, .int (iI 0)), (0, .ref (a 0)), (1, .ref (a 7))]) hq4) hl
  have hl := Eq.mp (congrArg (fun z9 => lv_has ls 4 [(3, .int (iI (0 : Int))), (2, .int (iI z9)), (0, .ref (a 0)), (1, .ref (a 7))]) hq5) hl
  exact lp4 (8 + 1) 0 (by omega) (by omega) ls hl
set_option maxRecDepth 100000 in
set_option maxHeartbeats 4000000 in
theorem c_X1_sum3 (l : Launch) (g : Gd) (a : Nat → Nat) (f1 : Int → Int) (f10 : Int → Int) (f11 : Int → Int) (h1 : 0 ≤ f1 1 ∧ f1 1 ≤ 8) : Met l yX1_sum (wsOf yX1_sum cX1_sum 4 (some .int)) rm_X1_sum (PX g (va_P g.1 vwCl (wLs g a f1 f10 f11)) [.ref (a 0), .ref (a 8)]) (vp_Si (fun r9 => r9 = iI (sumA f1 3))) 0 0 (fun _ => False) := by
  refine me (g := g) (by decide) rfl ?_
  intro pq eq s mq below meth cq C hnm hB ls hl
  obtain ⟨hx, hb, hr, hml, hown, hts, hlocks, hK⟩ := C
  have hown : s.vm.findClass RX1 = some mq.cls := hown
  have hl : lv_has ls 4 [(0, .ref (a 0)), (1, .ref (a 8))] := hl
  have hP : va_P g.1 vwCl (wLs g a f1 f10 f11) s.heap := hB
  refine lv_iconst (v := iI (0)) hx hb dX1_sum_0 (by decide) ?_
  refine lv_istore_n (lv' := [(2, .int (iI 0)), (0, .ref (a 0)), (1, .ref (a 8))]) hx hb dX1_sum_1 rfl hl (by decide) rfl (fun ls hl => ?_)
  refine lv_iconst (v := iI (0)) hx hb dX1_sum_2 (by decide) ?_
  refine lv_istore_n (lv' := [(3, .int (iI 0)), (2, .int (iI 0)), (0, .ref (a 0)), (1, .ref (a 8))]) hx hb dX1_sum_3 rfl hl (by decide) rfl (fun ls hl => ?_)
  have lp4 : ∀ (n4 : Nat) (k : Nat), ((k : Int) ≤ f1 1) → 8 - k < n4 → ∀ ls : Array Slot, lv_has ls 4 [(3, .int (iI (k : Int))), (2, .int (iI (sumT f1 3 k))), (0, .ref (a 0)), (1, .ref (a 8))] → W pq l eq rm_X1_sum s mq [.ref (a 0), .ref (a 8)].toArray below meth cq s.heap [] 0 0 (MQ below (vp_Si (fun r9 => r9 = iI (sumA f1 3))) [.ref (a 0), .ref (a 8)].toArray s 0 0 (fun _ => False)) (F0 mq 4 ls []) := by
    intro n4
    induction n4 with
    | zero => intro k i4_1 hm; exact absurd hm (Nat.not_lt_zero _)
    | succ n4 ih4 =>
      intro k i4_1 hm4 ls hl
      refine lv_iload_n hx hb dX1_sum_4 rfl (lv_at hl 0 rfl) ?_
      refine lv_aload_n hx hb dX1_sum_5 rfl (lv_at hl 2 rfl) ?_
      refine xg_X1 hx hb hts hown hK hP 0 rfl 1 (by decide) fk_X1_49 (v := .int (iI (f1 1))) rfl dX1_sum_6 ?_
      refine xi_c_ge (tgt := 24) hx hb ⟨by omega, by omega⟩ ⟨by omega, by omega⟩ dX1_sum_9 (by decide) (fun z1 => ?_) (fun z1 => ?_)
      · refine lv_iload_n hx hb dX1_sum_24 rfl (lv_at hl 1 rfl) ?_
        exact W.iret hx hb hr (fun t ht hW => ⟨_, rfl, by unfold sumA; rw [show (f1 1).toNat = k by omega], ht⟩) (fun q h => by cases h) dX1_sum_25
      · refine lv_iload_n hx hb dX1_sum_12 rfl (lv_at hl 1 rfl) ?_
        refine lv_aload_n hx hb dX1_sum_13 rfl (lv_at hl 3 rfl) ?_
        refine lv_iload_n hx hb dX1_sum_14 rfl (lv_at hl 0 rfl) ?_
        refine xi_alz hx hb hK hP 8 (s0 := f1) rfl (i := (k : Int)) ⟨by omega, by omega⟩ rfl dX1_sum_15 ?_
        refine xi_add hx hb dX1_sum_16 ?_
        refine lv_istore_n (lv' := [(2, .int (iI (sumT f1 3 k + (f1 (61 + 5 * (k : Int) + 3))))), (3, .int (iI (k : Int))), (0, .ref (a 0)), (1, .ref (a 8))]) hx hb dX1_sum_17 rfl hl (by decide) rfl (fun ls hl => ?_)
        refine xi_inc (lv' := [(3, .int (iI ((k : Int) + 1))), (2, .int (iI (sumT f1 3 k + (f1 (61 + 5 * (k : Int) + 3))))), (0, .ref (a 0)), (1, .ref (a 8))]) hx hb dX1_sum_18 hl (k := 1) rfl (by decide) rfl (fun ls hl => ?_)
        refine lv_goto (tgt := 4) hx hb dX1_sum_21 (by decide) ?_
        have hq2 : ((k : Int) + 1) = ((k + 1) : Int) := by omega
        have hq3 : (sumT f1 3 k + (f1 (61 + 5 * (k : Int) + 3))) = (sumT f1 3 (k + 1)) := rfl
        have hl : lv_has ls 4 [(3, .int (iI ((k : Int) + 1))), (2, .int (iI (sumT f1 3 k + (f1 (61 + 5 * (k : Int) + 3))))), (0, .ref (a 0)), (1, .ref (a 8))] := lv_sub hl [0, 1, 2, 3] rfl
        have hl := Eq.mp (congrArg (fun z9 => lv_has ls 4 [(3, .int (iI z9)), (2, .int (iI (sumT f1 3 k + (f1 (61 + 5 * (k : Int) + 3))))), (0, .ref (a 0)), (1, .ref (a 8))]) hq2) hl
        have hl := Eq.mp (congrArg (fun z9 => lv_has ls 4 [(3, .int (iI ((k + 1) : Int))), (2, .int (iI z9)), (0, .ref (a 0)), (1, .ref (a 8))]) hq3) hl
        exact ih4 (k + 1) (by omega) (by omega) ls hl
  have hq4 : 0 = (0 : Int) := rfl
  have hq5 : 0 = (sumT f1 3 0) := rfl
  have hl : lv_has ls 4 [(3, .int (iI 0)), (2, .int (iI 0)), (0, .ref (a 0)), (1, .ref (a 8))] := lv_sub hl [0, 1, 2, 3] rfl
  have hl := Eq.mp (congrArg (fun z9 => lv_has ls 4 [(3, .int (iI z9)), (2, .int (iI 0)), (0, .ref (a 0)), (1, .ref (a 8))]) hq4) hl
  have hl := Eq.mp (congrArg (fun z9 => lv_has ls 4 [(3, .int (iI (0 : Int))), (2, .int (iI z9)), (0, .ref (a 0)), (1, .ref (a 8))]) hq5) hl
  exact lp4 (8 + 1) 0 (by omega) (by omega) ls hl
set_option maxRecDepth 100000 in
set_option maxHeartbeats 4000000 in
theorem c_X1_sum4 (l : Launch) (g : Gd) (a : Nat → Nat) (f1 : Int → Int) (f10 : Int → Int) (f11 : Int → Int) (h1 : 0 ≤ f1 1 ∧ f1 1 ≤ 8) : Met l yX1_sum (wsOf yX1_sum cX1_sum 4 (some .int)) rm_X1_sum (PX g (va_P g.1 vwCl (wLs g a f1 f10 f11)) [.ref (a 0), .ref (a 9)]) (vp_Si (fun r9 => r9 = iI (sumA f1 4))) 0 0 (fun _ => False) := by
  refine me (g := g) (by decide) rfl ?_
  intro pq eq s mq below meth cq C hnm hB ls hl
  obtain ⟨hx, hb, hr, hml, hown, hts, hlocks, hK⟩ := C
  have hown : s.vm.findClass RX1 = some mq.cls := hown
  have hl : lv_has ls 4 [(0, .ref (a 0)), (1, .ref (a 9))] := hl
  have hP : va_P g.1 vwCl (wLs g a f1 f10 f11) s.heap := hB
  refine lv_iconst (v := iI (0)) hx hb dX1_sum_0 (by decide) ?_
  refine lv_istore_n (lv' := [(2, .int (iI 0)), (0, .ref (a 0)), (1, .ref (a 9))]) hx hb dX1_sum_1 rfl hl (by decide) rfl (fun ls hl => ?_)
  refine lv_iconst (v := iI (0)) hx hb dX1_sum_2 (by decide) ?_
  refine lv_istore_n (lv' := [(3, .int (iI 0)), (2, .int (iI 0)), (0, .ref (a 0)), (1, .ref (a 9))]) hx hb dX1_sum_3 rfl hl (by decide) rfl (fun ls hl => ?_)
  have lp4 : ∀ (n4 : Nat) (k : Nat), ((k : Int) ≤ f1 1) → 8 - k < n4 → ∀ ls : Array Slot, lv_has ls 4 [(3, .int (iI (k : Int))), (2, .int (iI (sumT f1 4 k))), (0, .ref (a 0)), (1, .ref (a 9))] → W pq l eq rm_X1_sum s mq [.ref (a 0), .ref (a 9)].toArray below meth cq s.heap [] 0 0 (MQ below (vp_Si (fun r9 => r9 = iI (sumA f1 4))) [.ref (a 0), .ref (a 9)].toArray s 0 0 (fun _ => False)) (F0 mq 4 ls []) := by
    intro n4
    induction n4 with
    | zero => intro k i4_1 hm; exact absurd hm (Nat.not_lt_zero _)
    | succ n4 ih4 =>
      intro k i4_1 hm4 ls hl
      refine lv_iload_n hx hb dX1_sum_4 rfl (lv_at hl 0 rfl) ?_
      refine lv_aload_n hx hb dX1_sum_5 rfl (lv_at hl 2 rfl) ?_
      refine xg_X1 hx hb hts hown hK hP 0 rfl 1 (by decide) fk_X1_49 (v := .int (iI (f1 1))) rfl dX1_sum_6 ?_
      refine xi_c_ge (tgt := 24) hx hb ⟨by omega, by omega⟩ ⟨by omega, by omega⟩ dX1_sum_9 (by decide) (fun z1 => ?_) (fun z1 => ?_)
      · refine lv_iload_n hx hb dX1_sum_24 rfl (lv_at hl 1 rfl) ?_
        exact W.iret hx hb hr (fun t ht hW => ⟨_, rfl, by unfold sumA; rw [show (f1 1).toNat = k by omega], ht⟩) (fun q h => by cases h) dX1_sum_25
      · refine lv_iload_n hx hb dX1_sum_12 rfl (lv_at hl 1 rfl) ?_
        refine lv_aload_n hx hb dX1_sum_13 rfl (lv_at hl 3 rfl) ?_
        refine lv_iload_n hx hb dX1_sum_14 rfl (lv_at hl 0 rfl) ?_
        refine xi_alz hx hb hK hP 9 (s0 := f1) rfl (i := (k : Int)) ⟨by omega, by omega⟩ rfl dX1_sum_15 ?_
        refine xi_add hx hb dX1_sum_16 ?_
        refine lv_istore_n (lv' := [(2, .int (iI (sumT f1 4 k + (f1 (61 + 5 * (k : Int) + 4))))), (3, .int (iI (k : Int))), (0, .ref (a 0)), (1, .ref (a 9))]) hx hb dX1_sum_17 rfl hl (by decide) rfl (fun ls hl => ?_)
        refine xi_inc (lv' := [(3, .int (iI ((k : Int) + 1))), (2, .int (iI (sumT f1 4 k + (f1 (61 + 5 * (k : Int) + 4))))), (0, .ref (a 0)), (1, .ref (a 9))]) hx hb dX1_sum_18 hl (k := 1) rfl (by decide) rfl (fun ls hl => ?_)
        refine lv_goto (tgt := 4) hx hb dX1_sum_21 (by decide) ?_
        have hq2 : ((k : Int) + 1) = ((k + 1) : Int) := by omega
        have hq3 : (sumT f1 4 k + (f1 (61 + 5 * (k : Int) + 4))) = (sumT f1 4 (k + 1)) := rfl
        have hl : lv_has ls 4 [(3, .int (iI ((k : Int) + 1))), (2, .int (iI (sumT f1 4 k + (f1 (61 + 5 * (k : Int) + 4))))), (0, .ref (a 0)), (1, .ref (a 9))] := lv_sub hl [0, 1, 2, 3] rfl
        have hl := Eq.mp (congrArg (fun z9 => lv_has ls 4 [(3, .int (iI z9)), (2, .int (iI (sumT f1 4 k + (f1 (61 + 5 * (k : Int) + 4))))), (0, .ref (a 0)), (1, .ref (a 9))]) hq2) hl
        have hl := Eq.mp (congrArg (fun z9 => lv_has ls 4 [(3, .int (iI ((k + 1) : Int))), (2, .int (iI z9)), (0, .ref (a 0)), (1, .ref (a 9))]) hq3) hl
        exact ih4 (k + 1) (by omega) (by omega) ls hl
  have hq4 : 0 = (0 : Int) := rfl
  have hq5 : 0 = (sumT f1 4 0) := rfl
  have hl : lv_has ls 4 [(3, .int (iI 0)), (2, .int (iI 0)), (0, .ref (a 0)), (1, .ref (a 9))] := lv_sub hl [0, 1, 2, 3] rfl
  have hl := Eq.mp (congrArg (fun z9 => lv_has ls 4 [(3, .int (iI z9)), (2, .int (iI 0)), (0, .ref (a 0)), (1, .ref (a 9))]) hq4) hl
  have hl := Eq.mp (congrArg (fun z9 => lv_has ls 4 [(3, .int (iI (0 : Int))), (2, .int (iI z9)), (0, .ref (a 0)), (1, .ref (a 9))]) hq5) hl
  exact lp4 (8 + 1) 0 (by omega) (by omega) ls hl
abbrev rm_X1_allHaste : Room := { frames := 1, cells := 0, slots := 0, locals := 23 }
set_option maxRecDepth 100000 in
set_option maxHeartbeats 4000000 in
theorem c_X1_allHaste (l : Launch) (g : Gd) (a : Nat → Nat) (f1 : Int → Int) (f10 : Int → Int) (f11 : Int → Int) (h1 : 0 ≤ f1 1 ∧ f1 1 ≤ 8) : Met l yX1_allHaste (wsOf yX1_allHaste cX1_allHaste 1 (some .int)) rm_X1_allHaste (PX g (va_P g.1 vwCl (wLs g a f1 f10 f11)) [.ref (a 0)]) (vp_Si (fun r9 => r9 = iI (sumA f1 2))) 0 0 (fun _ => False) := by
  refine me (g := g) (by decide) rfl ?_
  intro pq eq s mq below meth cq C hnm hB ls hl
  obtain ⟨hx, hb, hr, hml, hown, hts, hlocks, hK⟩ := C
  have hown : s.vm.findClass RX1 = some mq.cls := hown
  have hl : lv_has ls 1 [(0, .ref (a 0))] := hl
  have hP : va_P g.1 vwCl (wLs g a f1 f10 f11) s.heap := hB
  refine lv_aload_n hx hb dX1_allHaste_0 rfl (lv_at hl 0 rfl) ?_
  refine lv_aload_n hx hb dX1_allHaste_1 rfl (lv_at hl 0 rfl) ?_
  refine xg_X1 hx hb hts hown hK hP 0 rfl 9 (by decide) fk_X1_30 (v := .ref (a 7)) rfl dX1_allHaste_2 ?_
  refine xu_i (x := iI (sumA f1 2)) (rV (rest := []) hx hb hml hown hts hK hl (c_X1_sum2 l g a f1 f10 f11 (show 0 ≤ f1 1 ∧ f1 1 ≤ 8 from by omega)) lk_X1_118 hP (va_recv hK.1 hP (ci := 1) (q0 := 0) rfl rfl) rfl rfl rfl (Rm.of rfl) rfl rfl dX1_allHaste_5) ?_
  exact W.iret hx hb hr (fun t ht hW => ⟨_, rfl, rfl, ht⟩) (fun q h => by cases h) dX1_allHaste_8
abbrev rm_X1_allSteps : Room := { frames := 1, cells := 0, slots := 0, locals := 23 }
set_option maxRecDepth 100000 in
set_option maxHeartbeats 4000000 in
theorem c_X1_allSteps (l : Launch) (g : Gd) (a : Nat → Nat) (f1 : Int → Int) (f10 : Int → Int) (f11 : Int → Int) (h1 : 0 ≤ f1 1 ∧ f1 1 ≤ 8) : Met l yX1_allSteps (wsOf yX1_allSteps cX1_allSteps 1 (some .int)) rm_X1_allSteps (PX g (va_P g.1 vwCl (wLs g a f1 f10 f11)) [.ref (a 0)]) (vp_Si (fun r9 => r9 = iI (sumA f1 3))) 0 0 (fun _ => False) := by
  refine me (g := g) (by decide) rfl ?_
  intro pq eq s mq below meth cq C hnm hB ls hl
  obtain ⟨hx, hb, hr, hml, hown, hts, hlocks, hK⟩ := C
  have hown : s.vm.findClass RX1 = some mq.cls := hown
  have hl : lv_has ls 1 [(0, .ref (a 0))] := hl
  have hP : va_P g.1 vwCl (wLs g a f1 f10 f11) s.heap := hB
  refine lv_aload_n hx hb dX1_allSteps_0 rfl (lv_at hl 0 rfl) ?_
  refine lv_aload_n hx hb dX1_allSteps_1 rfl (lv_at hl 0 rfl) ?_
  refine xg_X1 hx hb hts hown hK hP 0 rfl 10 (by decide) fk_X1_33 (v := .ref (a 8)) rfl dX1_allSteps_2 ?_
  refine xu_i (x := iI (sumA f1 3)) (rV (rest := []) hx hb hml hown hts hK hl (c_X1_sum3 l g a f1 f10 f11 (show 0 ≤ f1 1 ∧ f1 1 ≤ 8 from by omega)) lk_X1_118 hP (va_recv hK.1 hP (ci := 1) (q0 := 0) rfl rfl) rfl rfl rfl (Rm.of rfl) rfl rfl dX1_allSteps_5) ?_
  exact W.iret hx hb hr (fun t ht hW => ⟨_, rfl, rfl, ht⟩) (fun q h => by cases h) dX1_allSteps_8
abbrev rm_X1_allWaits : Room := { frames := 1, cells := 0, slots := 0, locals := 23 }
set_option maxRecDepth 100000 in
set_option maxHeartbeats 4000000 in
theorem c_X1_allWaits (l : Launch) (g : Gd) (a : Nat → Nat) (f1 : Int → Int) (f10 : Int → Int) (f11 : Int → Int) (h1 : 0 ≤ f1 1 ∧ f1 1 ≤ 8) : Met l yX1_allWaits (wsOf yX1_allWaits cX1_allWaits 1 (some .int)) rm_X1_allWaits (PX g (va_P g.1 vwCl (wLs g a f1 f10 f11)) [.ref (a 0)]) (vp_Si (fun r9 => r9 = iI (sumA f1 4))) 0 0 (fun _ => False) := by
  refine me (g := g) (by decide) rfl ?_
  intro pq eq s mq below meth cq C hnm hB ls hl
  obtain ⟨hx, hb, hr, hml, hown, hts, hlocks, hK⟩ := C
  have hown : s.vm.findClass RX1 = some mq.cls := hown
  have hl : lv_has ls 1 [(0, .ref (a 0))] := hl
  have hP : va_P g.1 vwCl (wLs g a f1 f10 f11) s.heap := hB
  refine lv_aload_n hx hb dX1_allWaits_0 rfl (lv_at hl 0 rfl) ?_
  refine lv_aload_n hx hb dX1_allWaits_1 rfl (lv_at hl 0 rfl) ?_
  refine xg_X1 hx hb hts hown hK hP 0 rfl 11 (by decide) fk_X1_36 (v := .ref (a 9)) rfl dX1_allWaits_2 ?_
  refine xu_i (x := iI (sumA f1 4)) (rV (rest := []) hx hb hml hown hts hK hl (c_X1_sum4 l g a f1 f10 f11 (show 0 ≤ f1 1 ∧ f1 1 ≤ 8 from by omega)) lk_X1_118 hP (va_recv hK.1 hP (ci := 1) (q0 := 0) rfl rfl) rfl rfl rfl (Rm.of rfl) rfl rfl dX1_allWaits_5) ?_
  exact W.iret hx hb hr (fun t ht hW => ⟨_, rfl, rfl, ht⟩) (fun q h => by cases h) dX1_allWaits_8
abbrev rm_X1_shutCells : Room := { frames := 1, cells := 0, slots := 0, locals := 22 }
set_option maxRecDepth 100000 in
set_option maxHeartbeats 4000000 in
theorem c_X1_shutCells (l : Launch) (g : Gd) (a : Nat → Nat) (f1 : Int → Int) (f10 : Int → Int) (f11 : Int → Int) (h1 : Inv f1) : Met l yX1_shutCells (wsOf yX1_shutCells cX1_shutCells 3 (some .int)) rm_X1_shutCells (PX g (va_P g.1 vwCl (wLs g a f1 f10 f11)) [.ref (a 0)]) (vp_Si (fun r9 => r9 = orT (shT f1) 24)) 0 0 (fun _ => False) := by
  refine me (g := g) (by decide) rfl ?_
  intro pq eq s mq below meth cq C hnm hB ls hl
  obtain ⟨hx, hb, hr, hml, hown, hts, hlocks, hK⟩ := C
  have hown : s.vm.findClass RX1 = some mq.cls := hown
  have hl : lv_has ls 3 [(0, .ref (a 0))] := hl
  have hP : va_P g.1 vwCl (wLs g a f1 f10 f11) s.heap := hB
  have hI := h1
  have hn := hI.num
  have hs := hI.sea
  refine lv_iconst (v := iI (0)) hx hb dX1_shutCells_0 (by decide) ?_
  refine lv_istore_n (lv' := [(1, .int (iI 0)), (0, .ref (a 0))]) hx hb dX1_shutCells_1 rfl hl (by decide) rfl (fun ls hl => ?_)
  refine lv_iconst (v := iI (0)) hx hb dX1_shutCells_2 (by decide) ?_
  refine lv_istore_n (lv' := [(2, .int (iI 0)), (1, .int (iI 0)), (0, .ref (a 0))]) hx hb dX1_shutCells_3 rfl hl (by decide) rfl (fun ls hl => ?_)
  have lp4 : ∀ (n4 : Nat) (k : Nat), ((k : Int) ≤ 24) → 24 - k < n4 → ∀ ls : Array Slot, lv_has ls 3 [(2, .int (iI (k : Int))), (1, .int (orT (shT f1) k)), (0, .ref (a 0))] → W pq l eq rm_X1_shutCells s mq [.ref (a 0)].toArray below meth cq s.heap [] 0 0 (MQ below (vp_Si (fun r9 => r9 = orT (shT f1) 24)) [.ref (a 0)].toArray s 0 0 (fun _ => False)) (F0 mq 4 ls []) := by
    intro n4
    induction n4 with
    | zero => intro k i4_1 hm; exact absurd hm (Nat.not_lt_zero _)
    | succ n4 ih4 =>
      intro k i4_1 hm4 ls hl
      refine lv_iload_n hx hb dX1_shutCells_4 rfl (lv_at hl 0 rfl) ?_
      refine lv_bipush (v := iI (24)) hx hb dX1_shutCells_5 (by decide) ?_
      refine xi_c_ge (tgt := 30) hx hb ⟨by omega, by omega⟩ ⟨by decide, by decide⟩ dX1_shutCells_7 (by decide) (fun z1 => ?_) (fun z1 => ?_)
      · refine lv_iload_n hx hb dX1_shutCells_30 rfl (lv_at hl 1 rfl) ?_
        exact W.iret hx hb hr (fun t ht hW => ⟨_, rfl, by rw [show k = 24 by omega], ht⟩) (fun q h => by cases h) dX1_shutCells_31
      · refine lv_aload_n hx hb dX1_shutCells_10 rfl (lv_at hl 2 rfl) ?_
        refine lv_iload_n hx hb dX1_shutCells_11 rfl (lv_at hl 0 rfl) ?_
        refine xu_b (P := opn f1 (k : Int)) (rV (rest := []) hx hb hml hown hts hK hl (c_X1_isOpen l g a f1 f10 f11 (k : Int) (show Inv f1 from h1) (show 0 ≤ (k : Int) ∧ (k : Int) < 24 from by omega)) lk_X1_68 hP (va_recv hK.1 hP (ci := 1) (q0 := 0) rfl rfl) rfl rfl rfl (Rm.of rfl) rfl rfl dX1_shutCells_12) (fun z2 => ?_) (fun z2 => ?_)
        · refine xi_zt_ne (tgt := 24) hx hb ⟨by decide, by decide⟩ (by decide) dX1_shutCells_15 (by decide) ?_
          refine xi_inc (lv' := [(2, .int (iI ((k : Int) + 1))), (1, .int (orT (shT f1) k)), (0, .ref (a 0))]) hx hb dX1_shutCells_24 hl (k := 0) rfl (by decide) rfl (fun ls hl => ?_)
          refine lv_goto (tgt := 4) hx hb dX1_shutCells_27 (by decide) ?_
          have hq3 : ((k : Int) + 1) = ((k + 1) : Int) := by omega
          have hq4 : (orT (shT f1) k) = (orT (shT f1) (k + 1)) := by simp only [orT, shT]; first | (rw [if_pos (by assumption)]; exact (or_0 _).symm) | (rw [if_neg (by assumption)]; rfl)
          have hl : lv_has ls 3 [(2, .int (iI ((k : Int) + 1))), (1, .int (orT (shT f1) k)), (0, .ref (a 0))] := lv_sub hl [0, 1, 2] rfl
          have hl := Eq.mp (congrArg (fun z9 => lv_has ls 3 [(2, .int (iI z9)), (1, .int (orT (shT f1) k)), (0, .ref (a 0))]) hq3) hl
          have hl := Eq.mp (congrArg (fun z9 => lv_has ls 3 [(2, .int (iI ((k + 1) : Int))), (1, .int z9), (0, .ref (a 0))]) hq4) hl
          exact ih4 (k + 1) (by omega) (by omega) ls hl
        · refine xi_zf_ne hx hb ⟨by decide, by decide⟩ (by decide) dX1_shutCells_15 ⟨24, by decide⟩ ?_
          refine lv_iload_n hx hb dX1_shutCells_18 rfl (lv_at hl 1 rfl) ?_
          refine lv_iconst (v := iI (1)) hx hb dX1_shutCells_19 (by decide) ?_
          refine lv_iload_n hx hb dX1_shutCells_20 rfl (lv_at hl 0 rfl) ?_
          refine lv_ishl hx hb dX1_shutCells_21 ?_
          refine lv_ior hx hb dX1_shutCells_22 ?_
          refine lv_istore_n (lv' := [(1, .int (((orT (shT f1) k)) ||| (((iI 1) <<< ((iI (k : Int)) &&& 31))))), (2, .int (iI (k : Int))), (0, .ref (a 0))]) hx hb dX1_shutCells_23 rfl hl (by decide) rfl (fun ls hl => ?_)
          refine xi_inc (lv' := [(2, .int (iI ((k : Int) + 1))), (1, .int (((orT (shT f1) k)) ||| (((iI 1) <<< ((iI (k : Int)) &&& 31))))), (0, .ref (a 0))]) hx hb dX1_shutCells_24 hl (k := 1) rfl (by decide) rfl (fun ls hl => ?_)
          refine lv_goto (tgt := 4) hx hb dX1_shutCells_27 (by decide) ?_
          have hq5 : ((k : Int) + 1) = ((k + 1) : Int) := by omega
          have hq6 : (((orT (shT f1) k)) ||| (((iI 1) <<< ((iI (k : Int)) &&& 31)))) = (orT (shT f1) (k + 1)) := by simp only [orT, shT]; first | (rw [if_pos (by assumption)]; exact (or_0 _).symm) | (rw [if_neg (by assumption)]; rfl)
          have hl : lv_has ls 3 [(2, .int (iI ((k : Int) + 1))), (1, .int (((orT (shT f1) k)) ||| (((iI 1) <<< ((iI (k : Int)) &&& 31))))), (0, .ref (a 0))] := lv_sub hl [0, 1, 2] rfl
          have hl := Eq.mp (congrArg (fun z9 => lv_has ls 3 [(2, .int (iI z9)), (1, .int (((orT (shT f1) k)) ||| (((iI 1) <<< ((iI (k : Int)) &&& 31))))), (0, .ref (a 0))]) hq5) hl
          have hl := Eq.mp (congrArg (fun z9 => lv_has ls 3 [(2, .int (iI ((k + 1) : Int))), (1, .int z9), (0, .ref (a 0))]) hq6) hl
          exact ih4 (k + 1) (by omega) (by omega) ls hl
  have hq7 : 0 = (0 : Int) := rfl
  have hq8 : (iI 0) = (orT (shT f1) 0) := rfl
  have hl : lv_has ls 3 [(2, .int (iI 0)), (1, .int (iI 0)), (0, .ref (a 0))] := lv_sub hl [0, 1, 2] rfl
  have hl := Eq.mp (congrArg (fun z9 => lv_has ls 3 [(2, .int (iI z9)), (1, .int (iI 0)), (0, .ref (a 0))]) hq7) hl
  have hl := Eq.mp (congrArg (fun z9 => lv_has ls 3 [(2, .int (iI (0 : Int))), (1, .int z9), (0, .ref (a 0))]) hq8) hl
  exact lp4 (24 + 1) 0 (by omega) (by omega) ls hl
abbrev rm_X1_openPasses : Room := { frames := 1, cells := 0, slots := 0, locals := 22 }
set_option maxRecDepth 100000 in
set_option maxHeartbeats 4000000 in
theorem c_X1_openPasses (l : Launch) (g : Gd) (a : Nat → Nat) (f1 : Int → Int) (f10 : Int → Int) (f11 : Int → Int) (h1 : Inv f1) : Met l yX1_openPasses (wsOf yX1_openPasses cX1_openPasses 3 (some .int)) rm_X1_openPasses (PX g (va_P g.1 vwCl (wLs g a f1 f10 f11)) [.ref (a 0)]) (vp_Si (fun r9 => r9 = orT (opT f1) 24)) 0 0 (fun _ => False) := by
  refine me (g := g) (by decide) rfl ?_
  intro pq eq s mq below meth cq C hnm hB ls hl
  obtain ⟨hx, hb, hr, hml, hown, hts, hlocks, hK⟩ := C
  have hown : s.vm.findClass RX1 = some mq.cls := hown
  have hl : lv_has ls 3 [(0, .ref (a 0))] := hl
  have hP : va_P g.1 vwCl (wLs g a f1 f10 f11) s.heap := hB
  have hI := h1
  have hn := hI.num
  have hs := hI.sea
  refine lv_iconst (v := iI (0)) hx hb dX1_openPasses_0 (by decide) ?_
  refine lv_istore_n (lv' := [(1, .int (iI 0)), (0, .ref (a 0))]) hx hb dX1_openPasses_1 rfl hl (by decide) rfl (fun ls hl => ?_)
  refine lv_iconst (v := iI (0)) hx hb dX1_openPasses_2 (by decide) ?_
  refine lv_istore_n (lv' := [(2, .int (iI 0)), (1, .int (iI 0)), (0, .ref (a 0))]) hx hb dX1_openPasses_3 rfl hl (by decide) rfl (fun ls hl => ?_)
  have lp4 : ∀ (n4 : Nat) (k : Nat), ((k : Int) ≤ 24) → 24 - k < n4 → ∀ ls : Array Slot, lv_has ls 3 [(2, .int (iI (k : Int))), (1, .int (orT (opT f1) k)), (0, .ref (a 0))] → W pq l eq rm_X1_openPasses s mq [.ref (a 0)].toArray below meth cq s.heap [] 0 0 (MQ below (vp_Si (fun r9 => r9 = orT (opT f1) 24)) [.ref (a 0)].toArray s 0 0 (fun _ => False)) (F0 mq 4 ls []) := by
    intro n4
    induction n4 with
    | zero => intro k i4_1 hm; exact absurd hm (Nat.not_lt_zero _)
    | succ n4 ih4 =>
      intro k i4_1 hm4 ls hl
      refine lv_iload_n hx hb dX1_openPasses_4 rfl (lv_at hl 0 rfl) ?_
      refine lv_bipush (v := iI (24)) hx hb dX1_openPasses_5 (by decide) ?_
      refine xi_c_ge (tgt := 38) hx hb ⟨by omega, by omega⟩ ⟨by decide, by decide⟩ dX1_openPasses_7 (by decide) (fun z1 => ?_) (fun z1 => ?_)
      · refine lv_iload_n hx hb dX1_openPasses_38 rfl (lv_at hl 1 rfl) ?_
        exact W.iret hx hb hr (fun t ht hW => ⟨_, rfl, by rw [show k = 24 by omega], ht⟩) (fun q h => by cases h) dX1_openPasses_39
      · refine lv_aload_n hx hb dX1_openPasses_10 rfl (lv_at hl 2 rfl) ?_
        refine lv_iload_n hx hb dX1_openPasses_11 rfl (lv_at hl 0 rfl) ?_
        refine xu_b (P := 0 < f1 (7 + (k : Int))) (rV (rest := []) hx hb hml hown hts hK hl (c_X1_isPass l g a f1 f10 f11 (k : Int) (show Inv f1 from h1) (show 0 ≤ (k : Int) ∧ (k : Int) < 24 from by omega)) lk_X1_112 hP (va_recv hK.1 hP (ci := 1) (q0 := 0) rfl rfl) rfl rfl rfl (Rm.of rfl) rfl rfl dX1_openPasses_12) (fun z2 => ?_) (fun z2 => ?_)
        · refine xi_zf_eq hx hb ⟨by decide, by decide⟩ (by decide) dX1_openPasses_15 ⟨32, by decide⟩ ?_
          refine lv_aload_n hx hb dX1_openPasses_18 rfl (lv_at hl 2 rfl) ?_
          refine lv_iload_n hx hb dX1_openPasses_19 rfl (lv_at hl 0 rfl) ?_
          refine xu_b (P := opn f1 (k : Int)) (rV (rest := []) hx hb hml hown hts hK hl (c_X1_isOpen l g a f1 f10 f11 (k : Int) (show Inv f1 from h1) (show 0 ≤ (k : Int) ∧ (k : Int) < 24 from by omega)) lk_X1_68 hP (va_recv hK.1 hP (ci := 1) (q0 := 0) rfl rfl) rfl rfl rfl (Rm.of rfl) rfl rfl dX1_openPasses_20) (fun z3 => ?_) (fun z3 => ?_)
          · refine xi_zf_eq hx hb ⟨by decide, by decide⟩ (by decide) dX1_openPasses_23 ⟨32, by decide⟩ ?_
            refine lv_iload_n hx hb dX1_openPasses_26 rfl (lv_at hl 1 rfl) ?_
            refine lv_iconst (v := iI (1)) hx hb dX1_openPasses_27 (by decide) ?_
            refine lv_iload_n hx hb dX1_openPasses_28 rfl (lv_at hl 0 rfl) ?_
            refine lv_ishl hx hb dX1_openPasses_29 ?_
            refine lv_ior hx hb dX1_openPasses_30 ?_
            refine lv_istore_n (lv' := [(1, .int (((orT (opT f1) k)) ||| (((iI 1) <<< ((iI (k : Int)) &&& 31))))), (2, .int (iI (k : Int))), (0, .ref (a 0))]) hx hb dX1_openPasses_31 rfl hl (by decide) rfl (fun ls hl => ?_)
            refine xi_inc (lv' := [(2, .int (iI ((k : Int) + 1))), (1, .int (((orT (opT f1) k)) ||| (((iI 1) <<< ((iI (k : Int)) &&& 31))))), (0, .ref (a 0))]) hx hb dX1_openPasses_32 hl (k := 1) rfl (by decide) rfl (fun ls hl => ?_)
            refine lv_goto (tgt := 4) hx hb dX1_openPasses_35 (by decide) ?_
            have hq4 : ((k : Int) + 1) = ((k + 1) : Int) := by omega
            have hq5 : (((orT (opT f1) k)) ||| (((iI 1) <<< ((iI (k : Int)) &&& 31)))) = (orT (opT f1) (k + 1)) := by simp only [orT, opT]; first | (rw [if_pos ⟨by omega, by assumption⟩]; rfl) | (rw [if_neg (fun z => by first | exact absurd z.2 (by assumption) | (have := z.1; omega))]; exact (or_0 _).symm)
            have hl : lv_has ls 3 [(2, .int (iI ((k : Int) + 1))), (1, .int (((orT (opT f1) k)) ||| (((iI 1) <<< ((iI (k : Int)) &&& 31))))), (0, .ref (a 0))] := lv_sub hl [0, 1, 2] rfl
            have hl := Eq.mp (congrArg (fun z9 => lv_has ls 3 [(2, .int (iI z9)), (1, .int (((orT (opT f1) k)) ||| (((iI 1) <<< ((iI (k : Int)) &&& 31))))), (0, .ref (a 0))]) hq4) hl
            have hl := Eq.mp (congrArg (fun z9 => lv_has ls 3 [(2, .int (iI ((k + 1) : Int))), (1, .int z9), (0, .ref (a 0))]) hq5) hl
            exact ih4 (k + 1) (by omega) (by omega) ls hl
          · refine xi_zt_eq (tgt := 32) hx hb ⟨by decide, by decide⟩ (by decide) dX1_openPasses_23 (by decide) ?_
            refine xi_inc (lv' := [(2, .int (iI ((k : Int) + 1))), (1, .int (orT (opT f1) k)), (0, .ref (a 0))]) hx hb dX1_openPasses_32 hl (k := 0) rfl (by decide) rfl (fun ls hl => ?_)
            refine lv_goto (tgt := 4) hx hb dX1_openPasses_35 (by decide) ?_
            have hq6 : ((k : Int) + 1) = ((k + 1) : Int) := by omega
            have hq7 : (orT (opT f1) k) = (orT (opT f1) (k + 1)) := by simp only [orT, opT]; first | (rw [if_pos ⟨by omega, by assumption⟩]; rfl) | (rw [if_neg (fun z => by first | exact absurd z.2 (by assumption) | (have := z.1; omega))]; exact (or_0 _).symm)
            have hl : lv_has ls 3 [(2, .int (iI ((k : Int) + 1))), (1, .int (orT (opT f1) k)), (0, .ref (a 0))] := lv_sub hl [0, 1, 2] rfl
            have hl := Eq.mp (congrArg (fun z9 => lv_has ls 3 [(2, .int (iI z9)), (1, .int (orT (opT f1) k)), (0, .ref (a 0))]) hq6) hl
            have hl := Eq.mp (congrArg (fun z9 => lv_has ls 3 [(2, .int (iI ((k + 1) : Int))), (1, .int z9), (0, .ref (a 0))]) hq7) hl
            exact ih4 (k + 1) (by omega) (by omega) ls hl
        · refine xi_zt_eq (tgt := 32) hx hb ⟨by decide, by decide⟩ (by decide) dX1_openPasses_15 (by decide) ?_
          refine xi_inc (lv' := [(2, .int (iI ((k : Int) + 1))), (1, .int (orT (opT f1) k)), (0, .ref (a 0))]) hx hb dX1_openPasses_32 hl (k := 0) rfl (by decide) rfl (fun ls hl => ?_)
          refine lv_goto (tgt := 4) hx hb dX1_openPasses_35 (by decide) ?_
          have hq8 : ((k : Int) + 1) = ((k + 1) : Int) := by omega
          have hq9 : (orT (opT f1) k) = (orT (opT f1) (k + 1)) := by simp only [orT, opT]; first | (rw [if_pos ⟨by omega, by assumption⟩]; rfl) | (rw [if_neg (fun z => by first | exact absurd z.2 (by assumption) | (have := z.1; omega))]; exact (or_0 _).symm)
          have hl : lv_has ls 3 [(2, .int (iI ((k : Int) + 1))), (1, .int (orT (opT f1) k)), (0, .ref (a 0))] := lv_sub hl [0, 1, 2] rfl
          have hl := Eq.mp (congrArg (fun z9 => lv_has ls 3 [(2, .int (iI z9)), (1, .int (orT (opT f1) k)), (0, .ref (a 0))]) hq8) hl
          have hl := Eq.mp (congrArg (fun z9 => lv_has ls 3 [(2, .int (iI ((k + 1) : Int))), (1, .int z9), (0, .ref (a 0))]) hq9) hl
          exact ih4 (k + 1) (by omega) (by omega) ls hl
  have hq10 : 0 = (0 : Int) := rfl
  have hq11 : (iI 0) = (orT (opT f1) 0) := rfl
  have hl : lv_has ls 3 [(2, .int (iI 0)), (1, .int (iI 0)), (0, .ref (a 0))] := lv_sub hl [0, 1, 2] rfl
  have hl := Eq.mp (congrArg (fun z9 => lv_has ls 3 [(2, .int (iI z9)), (1, .int (iI 0)), (0, .ref (a 0))]) hq10) hl
  have hl := Eq.mp (congrArg (fun z9 => lv_has ls 3 [(2, .int (iI (0 : Int))), (1, .int z9), (0, .ref (a 0))]) hq11) hl
  exact lp4 (24 + 1) 0 (by omega) (by omega) ls hl
abbrev rm_X1_litVillages : Room := { frames := 2, cells := 0, slots := 0, locals := 44 }
set_option maxRecDepth 100000 in
set_option maxHeartbeats 4000000 in
theorem c_X1_litVillages (l : Launch) (g : Gd) (a : Nat → Nat) (f1 : Int → Int) (f10 : Int → Int) (f11 : Int → Int) (h1 : Inv f1) : Met l yX1_litVillages (wsOf yX1_litVillages cX1_litVillages 3 (some .int)) rm_X1_litVillages (PX g (va_P g.1 vwCl (wLs g a f1 f10 f11)) [.ref (a 0)]) (vp_Si (fun r9 => r9 = orT (liT f1) (f1 2).toNat)) 0 0 (fun _ => False) := by
  refine me (g := g) (by decide) rfl ?_
  intro pq eq s mq below meth cq C hnm hB ls hl
  obtain ⟨hx, hb, hr, hml, hown, hts, hlocks, hK⟩ := C
  have hown : s.vm.findClass RX1 = some mq.cls := hown
  have hl : lv_has ls 3 [(0, .ref (a 0))] := hl
  have hP : va_P g.1 vwCl (wLs g a f1 f10 f11) s.heap := hB
  have hI := h1
  have hn := hI.num
  have hs := hI.sea
  have hv := hI.vil
  refine lv_iconst (v := iI (0)) hx hb dX1_litVillages_0 (by decide) ?_
  refine lv_istore_n (lv' := [(1, .int (iI 0)), (0, .ref (a 0))]) hx hb dX1_litVillages_1 rfl hl (by decide) rfl (fun ls hl => ?_)
  refine lv_iconst (v := iI (0)) hx hb dX1_litVillages_2 (by decide) ?_
  refine lv_istore_n (lv' := [(2, .int (iI 0)), (1, .int (iI 0)), (0, .ref (a 0))]) hx hb dX1_litVillages_3 rfl hl (by decide) rfl (fun ls hl => ?_)
  have lp4 : ∀ (n4 : Nat) (k : Nat), ((k : Int) ≤ f1 2) → 6 - k < n4 → ∀ ls : Array Slot, lv_has ls 3 [(2, .int (iI (k : Int))), (1, .int (orT (liT f1) k)), (0, .ref (a 0))] → W pq l eq rm_X1_litVillages s mq [.ref (a 0)].toArray below meth cq s.heap [] 0 0 (MQ below (vp_Si (fun r9 => r9 = orT (liT f1) (f1 2).toNat)) [.ref (a 0)].toArray s 0 0 (fun _ => False)) (F0 mq 4 ls []) := by
    intro n4
    induction n4 with
    | zero => intro k i4_1 hm; exact absurd hm (Nat.not_lt_zero _)
    | succ n4 ih4 =>
      intro k i4_1 hm4 ls hl
      refine lv_iload_n hx hb dX1_litVillages_4 rfl (lv_at hl 0 rfl) ?_
      refine lv_aload_n hx hb dX1_litVillages_5 rfl (lv_at hl 2 rfl) ?_
      refine xg_X1 hx hb hts hown hK hP 0 rfl 2 (by decide) fk_X1_52 (v := .int (iI (f1 2))) rfl dX1_litVillages_6 ?_
      refine xi_c_ge (tgt := 32) hx hb ⟨by omega, by omega⟩ ⟨by omega, by omega⟩ dX1_litVillages_9 (by decide) (fun z1 => ?_) (fun z1 => ?_)
      · refine lv_iload_n hx hb dX1_litVillages_32 rfl (lv_at hl 1 rfl) ?_
        exact W.iret hx hb hr (fun t ht hW => ⟨_, rfl, by rw [show k = (f1 2).toNat by omega], ht⟩) (fun q h => by cases h) dX1_litVillages_33
      · refine lv_aload_n hx hb dX1_litVillages_12 rfl (lv_at hl 2 rfl) ?_
        refine lv_iload_n hx hb dX1_litVillages_13 rfl (lv_at hl 0 rfl) ?_
        refine xu_b (P := litP f1 (k : Int)) (rV (rest := []) hx hb hml hown hts hK hl (c_X1_isLit l g a f1 f10 f11 (k : Int) (show Inv f1 from h1) (show 0 ≤ (k : Int) ∧ (k : Int) < f1 2 from by omega)) lk_X1_115 hP (va_recv hK.1 hP (ci := 1) (q0 := 0) rfl rfl) rfl rfl rfl (Rm.of rfl) rfl rfl dX1_litVillages_14) (fun z2 => ?_) (fun z2 => ?_)
        · refine xi_zf_eq hx hb ⟨by decide, by decide⟩ (by decide) dX1_litVillages_17 ⟨26, by decide⟩ ?_
          refine lv_iload_n hx hb dX1_litVillages_20 rfl (lv_at hl 1 rfl) ?_
          refine lv_iconst (v := iI (1)) hx hb dX1_litVillages_21 (by decide) ?_
          refine lv_iload_n hx hb dX1_litVillages_22 rfl (lv_at hl 0 rfl) ?_
          refine lv_ishl hx hb dX1_litVillages_23 ?_
          refine lv_ior hx hb dX1_litVillages_24 ?_
          refine lv_istore_n (lv' := [(1, .int (((orT (liT f1) k)) ||| (((iI 1) <<< ((iI (k : Int)) &&& 31))))), (2, .int (iI (k : Int))), (0, .ref (a 0))]) hx hb dX1_litVillages_25 rfl hl (by decide) rfl (fun ls hl => ?_)
          refine xi_inc (lv' := [(2, .int (iI ((k : Int) + 1))), (1, .int (((orT (liT f1) k)) ||| (((iI 1) <<< ((iI (k : Int)) &&& 31))))), (0, .ref (a 0))]) hx hb dX1_litVillages_26 hl (k := 1) rfl (by decide) rfl (fun ls hl => ?_)
          refine lv_goto (tgt := 4) hx hb dX1_litVillages_29 (by decide) ?_
          have hq3 : ((k : Int) + 1) = ((k + 1) : Int) := by omega
          have hq4 : (((orT (liT f1) k)) ||| (((iI 1) <<< ((iI (k : Int)) &&& 31)))) = (orT (liT f1) (k + 1)) := by simp only [orT, liT]; first | (rw [if_pos (by assumption)]; rfl) | (rw [if_neg (by assumption)]; exact (or_0 _).symm)
          have hl : lv_has ls 3 [(2, .int (iI ((k : Int) + 1))), (1, .int (((orT (liT f1) k)) ||| (((iI 1) <<< ((iI (k : Int)) &&& 31))))), (0, .ref (a 0))] := lv_sub hl [0, 1, 2] rfl
          have hl := Eq.mp (congrArg (fun z9 => lv_has ls 3 [(2, .int (iI z9)), (1, .int (((orT (liT f1) k)) ||| (((iI 1) <<< ((iI (k : Int)) &&& 31))))), (0, .ref (a 0))]) hq3) hl
          have hl := Eq.mp (congrArg (fun z9 => lv_has ls 3 [(2, .int (iI ((k + 1) : Int))), (1, .int z9), (0, .ref (a 0))]) hq4) hl
          exact ih4 (k + 1) (by omega) (by omega) ls hl
        · refine xi_zt_eq (tgt := 26) hx hb ⟨by decide, by decide⟩ (by decide) dX1_litVillages_17 (by decide) ?_
          refine xi_inc (lv' := [(2, .int (iI ((k : Int) + 1))), (1, .int (orT (liT f1) k)), (0, .ref (a 0))]) hx hb dX1_litVillages_26 hl (k := 0) rfl (by decide) rfl (fun ls hl => ?_)
          refine lv_goto (tgt := 4) hx hb dX1_litVillages_29 (by decide) ?_
          have hq5 : ((k : Int) + 1) = ((k + 1) : Int) := by omega
          have hq6 : (orT (liT f1) k) = (orT (liT f1) (k + 1)) := by simp only [orT, liT]; first | (rw [if_pos (by assumption)]; rfl) | (rw [if_neg (by assumption)]; exact (or_0 _).symm)
          have hl : lv_has ls 3 [(2, .int (iI ((k : Int) + 1))), (1, .int (orT (liT f1) k)), (0, .ref (a 0))] := lv_sub hl [0, 1, 2] rfl
          have hl := Eq.mp (congrArg (fun z9 => lv_has ls 3 [(2, .int (iI z9)), (1, .int (orT (liT f1) k)), (0, .ref (a 0))]) hq5) hl
          have hl := Eq.mp (congrArg (fun z9 => lv_has ls 3 [(2, .int (iI ((k + 1) : Int))), (1, .int z9), (0, .ref (a 0))]) hq6) hl
          exact ih4 (k + 1) (by omega) (by omega) ls hl
  have hq7 : 0 = (0 : Int) := rfl
  have hq8 : (iI 0) = (orT (liT f1) 0) := rfl
  have hl : lv_has ls 3 [(2, .int (iI 0)), (1, .int (iI 0)), (0, .ref (a 0))] := lv_sub hl [0, 1, 2] rfl
  have hl := Eq.mp (congrArg (fun z9 => lv_has ls 3 [(2, .int (iI z9)), (1, .int (iI 0)), (0, .ref (a 0))]) hq7) hl
  have hl := Eq.mp (congrArg (fun z9 => lv_has ls 3 [(2, .int (iI (0 : Int))), (1, .int z9), (0, .ref (a 0))]) hq8) hl
  exact lp4 (6 + 1) 0 (by omega) (by omega) ls hl
abbrev rm_X1_takenCells : Room := { frames := 0, cells := 0, slots := 0, locals := 0 }
set_option maxRecDepth 100000 in
set_option maxHeartbeats 4000000 in
theorem c_X1_takenCells (l : Launch) (g : Gd) (a : Nat → Nat) (f1 : Int → Int) (f10 : Int → Int) (f11 : Int → Int) (h1 : Inv f1) : Met l yX1_takenCells (wsOf yX1_takenCells cX1_takenCells 3 (some .int)) rm_X1_takenCells (PX g (va_P g.1 vwCl (wLs g a f1 f10 f11)) [.ref (a 0)]) (vp_Si (fun r9 => r9 = orT (plT f1) (f1 1).toNat)) 0 0 (fun _ => False) := by
  refine me (g := g) (by decide) rfl ?_
  intro pq eq s mq below meth cq C hnm hB ls hl
  obtain ⟨hx, hb, hr, hml, hown, hts, hlocks, hK⟩ := C
  have hown : s.vm.findClass RX1 = some mq.cls := hown
  have hl : lv_has ls 3 [(0, .ref (a 0))] := hl
  have hP : va_P g.1 vwCl (wLs g a f1 f10 f11) s.heap := hB
  have hI := h1
  have hn := hI.num
  have hs := hI.sea
  refine lv_iconst (v := iI (0)) hx hb dX1_takenCells_0 (by decide) ?_
  refine lv_istore_n (lv' := [(1, .int (iI 0)), (0, .ref (a 0))]) hx hb dX1_takenCells_1 rfl hl (by decide) rfl (fun ls hl => ?_)
  refine lv_iconst (v := iI (0)) hx hb dX1_takenCells_2 (by decide) ?_
  refine lv_istore_n (lv' := [(2, .int (iI 0)), (1, .int (iI 0)), (0, .ref (a 0))]) hx hb dX1_takenCells_3 rfl hl (by decide) rfl (fun ls hl => ?_)
  have lp4 : ∀ (n4 : Nat) (k : Nat), ((k : Int) ≤ f1 1) → 8 - k < n4 → ∀ ls : Array Slot, lv_has ls 3 [(2, .int (iI (k : Int))), (1, .int (orT (plT f1) k)), (0, .ref (a 0))] → W pq l eq rm_X1_takenCells s mq [.ref (a 0)].toArray below meth cq s.heap [] 0 0 (MQ below (vp_Si (fun r9 => r9 = orT (plT f1) (f1 1).toNat)) [.ref (a 0)].toArray s 0 0 (fun _ => False)) (F0 mq 4 ls []) := by
    intro n4
    induction n4 with
    | zero => intro k i4_1 hm; exact absurd hm (Nat.not_lt_zero _)
    | succ n4 ih4 =>
      intro k i4_1 hm4 ls hl
      refine lv_iload_n hx hb dX1_takenCells_4 rfl (lv_at hl 0 rfl) ?_
      refine lv_aload_n hx hb dX1_takenCells_5 rfl (lv_at hl 2 rfl) ?_
      refine xg_X1 hx hb hts hown hK hP 0 rfl 1 (by decide) fk_X1_49 (v := .int (iI (f1 1))) rfl dX1_takenCells_6 ?_
      refine xi_c_ge (tgt := 29) hx hb ⟨by omega, by omega⟩ ⟨by omega, by omega⟩ dX1_takenCells_9 (by decide) (fun z1 => ?_) (fun z1 => ?_)
      · refine lv_iload_n hx hb dX1_takenCells_29 rfl (lv_at hl 1 rfl) ?_
        exact W.iret hx hb hr (fun t ht hW => ⟨_, rfl, by rw [show k = (f1 1).toNat by omega], ht⟩) (fun q h => by cases h) dX1_takenCells_30
      · refine lv_iload_n hx hb dX1_takenCells_12 rfl (lv_at hl 1 rfl) ?_
        refine lv_iconst (v := iI (1)) hx hb dX1_takenCells_13 (by decide) ?_
        refine lv_aload_n hx hb dX1_takenCells_14 rfl (lv_at hl 2 rfl) ?_
        refine xg_X1 hx hb hts hown hK hP 0 rfl 8 (by decide) fk_X1_27 (v := .ref (a 6)) rfl dX1_takenCells_15 ?_
        refine lv_iload_n hx hb dX1_takenCells_18 rfl (lv_at hl 0 rfl) ?_
        refine xi_alz hx hb hK hP 6 (s0 := f1) rfl (i := (k : Int)) ⟨by omega, by omega⟩ rfl dX1_takenCells_19 ?_
        refine lv_ishl hx hb dX1_takenCells_20 ?_
        refine lv_ior hx hb dX1_takenCells_21 ?_
        refine lv_istore_n (lv' := [(1, .int (((orT (plT f1) k)) ||| (((iI 1) <<< ((iI (f1 (61 + 5 * (k : Int) + 1))) &&& 31))))), (2, .int (iI (k : Int))), (0, .ref (a 0))]) hx hb dX1_takenCells_22 rfl hl (by decide) rfl (fun ls hl => ?_)
        refine xi_inc (lv' := [(2, .int (iI ((k : Int) + 1))), (1, .int (((orT (plT f1) k)) ||| (((iI 1) <<< ((iI (f1 (61 + 5 * (k : Int) + 1))) &&& 31))))), (0, .ref (a 0))]) hx hb dX1_takenCells_23 hl (k := 1) rfl (by decide) rfl (fun ls hl => ?_)
        refine lv_goto (tgt := 4) hx hb dX1_takenCells_26 (by decide) ?_
        have hq2 : ((k : Int) + 1) = ((k + 1) : Int) := by omega
        have hq3 : (((orT (plT f1) k)) ||| (((iI 1) <<< ((iI (f1 (61 + 5 * (k : Int) + 1))) &&& 31)))) = (orT (plT f1) (k + 1)) := by simp only [orT, plT]; rfl
        have hl : lv_has ls 3 [(2, .int (iI ((k : Int) + 1))), (1, .int (((orT (plT f1) k)) ||| (((iI 1) <<< ((iI (f1 (61 + 5 * (k : Int) + 1))) &&& 31))))), (0, .ref (a 0))] := lv_sub hl [0, 1, 2] rfl
        have hl := Eq.mp (congrArg (fun z9 => lv_has ls 3 [(2, .int (iI z9)), (1, .int (((orT (plT f1) k)) ||| (((iI 1) <<< ((iI (f1 (61 + 5 * (k : Int) + 1))) &&& 31))))), (0, .ref (a 0))]) hq2) hl
        have hl := Eq.mp (congrArg (fun z9 => lv_has ls 3 [(2, .int (iI ((k + 1) : Int))), (1, .int z9), (0, .ref (a 0))]) hq3) hl
        exact ih4 (k + 1) (by omega) (by omega) ls hl
  have hq4 : 0 = (0 : Int) := rfl
  have hq5 : (iI 0) = (orT (plT f1) 0) := rfl
  have hl : lv_has ls 3 [(2, .int (iI 0)), (1, .int (iI 0)), (0, .ref (a 0))] := lv_sub hl [0, 1, 2] rfl
  have hl := Eq.mp (congrArg (fun z9 => lv_has ls 3 [(2, .int (iI z9)), (1, .int (iI 0)), (0, .ref (a 0))]) hq4) hl
  have hl := Eq.mp (congrArg (fun z9 => lv_has ls 3 [(2, .int (iI (0 : Int))), (1, .int z9), (0, .ref (a 0))]) hq5) hl
  exact lp4 (8 + 1) 0 (by omega) (by omega) ls hl
abbrev rm_X1_allPasses : Room := { frames := 1, cells := 0, slots := 0, locals := 21 }
set_option maxRecDepth 100000 in
set_option maxHeartbeats 4000000 in
theorem c_X1_allPasses (l : Launch) (g : Gd) (a : Nat → Nat) (f1 : Int → Int) (f10 : Int → Int) (f11 : Int → Int) (h1 : Inv f1) : Met l yX1_allPasses (wsOf yX1_allPasses cX1_allPasses 3 (some .int)) rm_X1_allPasses (PX g (va_P g.1 vwCl (wLs g a f1 f10 f11)) [.ref (a 0)]) (vp_Si (fun r9 => r9 = iI (psT f1 24))) 0 0 (fun _ => False) := by
  refine me (g := g) (by decide) rfl ?_
  intro pq eq s mq below meth cq C hnm hB ls hl
  obtain ⟨hx, hb, hr, hml, hown, hts, hlocks, hK⟩ := C
  have hown : s.vm.findClass RX1 = some mq.cls := hown
  have hl : lv_has ls 3 [(0, .ref (a 0))] := hl
  have hP : va_P g.1 vwCl (wLs g a f1 f10 f11) s.heap := hB
  have hI := h1
  have hn := hI.num
  have hs := hI.sea
  refine lv_iconst (v := iI (0)) hx hb dX1_allPasses_0 (by decide) ?_
  refine lv_istore_n (lv' := [(1, .int (iI 0)), (0, .ref (a 0))]) hx hb dX1_allPasses_1 rfl hl (by decide) rfl (fun ls hl => ?_)
  refine lv_iconst (v := iI (0)) hx hb dX1_allPasses_2 (by decide) ?_
  refine lv_istore_n (lv' := [(2, .int (iI 0)), (1, .int (iI 0)), (0, .ref (a 0))]) hx hb dX1_allPasses_3 rfl hl (by decide) rfl (fun ls hl => ?_)
  have lp4 : ∀ (n4 : Nat) (k : Nat), ((k : Int) ≤ 24) → 24 - k < n4 → ∀ ls : Array Slot, lv_has ls 3 [(2, .int (iI (k : Int))), (1, .int (iI (psT f1 k))), (0, .ref (a 0))] → W pq l eq rm_X1_allPasses s mq [.ref (a 0)].toArray below meth cq s.heap [] 0 0 (MQ below (vp_Si (fun r9 => r9 = iI (psT f1 24))) [.ref (a 0)].toArray s 0 0 (fun _ => False)) (F0 mq 4 ls []) := by
    intro n4
    induction n4 with
    | zero => intro k i4_1 hm; exact absurd hm (Nat.not_lt_zero _)
    | succ n4 ih4 =>
      intro k i4_1 hm4 ls hl
      refine lv_iload_n hx hb dX1_allPasses_4 rfl (lv_at hl 0 rfl) ?_
      refine lv_bipush (v := iI (24)) hx hb dX1_allPasses_5 (by decide) ?_
      refine xi_c_ge (tgt := 27) hx hb ⟨by omega, by omega⟩ ⟨by decide, by decide⟩ dX1_allPasses_7 (by decide) (fun z1 => ?_) (fun z1 => ?_)
      · refine lv_iload_n hx hb dX1_allPasses_27 rfl (lv_at hl 1 rfl) ?_
        exact W.iret hx hb hr (fun t ht hW => ⟨_, rfl, by rw [show k = 24 by omega], ht⟩) (fun q h => by cases h) dX1_allPasses_28
      · refine lv_aload_n hx hb dX1_allPasses_10 rfl (lv_at hl 2 rfl) ?_
        refine lv_iload_n hx hb dX1_allPasses_11 rfl (lv_at hl 0 rfl) ?_
        refine xu_b (P := 0 < f1 (7 + (k : Int))) (rV (rest := []) hx hb hml hown hts hK hl (c_X1_isPass l g a f1 f10 f11 (k : Int) (show Inv f1 from h1) (show 0 ≤ (k : Int) ∧ (k : Int) < 24 from by omega)) lk_X1_112 hP (va_recv hK.1 hP (ci := 1) (q0 := 0) rfl rfl) rfl rfl rfl (Rm.of rfl) rfl rfl dX1_allPasses_12) (fun z2 => ?_) (fun z2 => ?_)
        · refine xi_zf_eq hx hb ⟨by decide, by decide⟩ (by decide) dX1_allPasses_15 ⟨21, by decide⟩ ?_
          refine xi_inc (lv' := [(1, .int (iI (psT f1 k + 1))), (2, .int (iI (k : Int))), (0, .ref (a 0))]) hx hb dX1_allPasses_18 hl (k := 1) rfl (by decide) rfl (fun ls hl => ?_)
          refine xi_inc (lv' := [(2, .int (iI ((k : Int) + 1))), (1, .int (iI (psT f1 k + 1))), (0, .ref (a 0))]) hx hb dX1_allPasses_21 hl (k := 1) rfl (by decide) rfl (fun ls hl => ?_)
          refine lv_goto (tgt := 4) hx hb dX1_allPasses_24 (by decide) ?_
          have hq3 : ((k : Int) + 1) = ((k + 1) : Int) := by omega
          have hq4 : (psT f1 k + 1) = (psT f1 (k + 1)) := by simp only [psT]; first | (rw [if_pos (by omega)]; done) | (rw [if_neg (by omega)]; omega) | (rw [if_neg (by omega)]; done)
          have hl : lv_has ls 3 [(2, .int (iI ((k : Int) + 1))), (1, .int (iI (psT f1 k + 1))), (0, .ref (a 0))] := lv_sub hl [0, 1, 2] rfl
          have hl := Eq.mp (congrArg (fun z9 => lv_has ls 3 [(2, .int (iI z9)), (1, .int (iI (psT f1 k + 1))), (0, .ref (a 0))]) hq3) hl
          have hl := Eq.mp (congrArg (fun z9 => lv_has ls 3 [(2, .int (iI ((k + 1) : Int))), (1, .int (iI z9)), (0, .ref (a 0))]) hq4) hl
          exact ih4 (k + 1) (by omega) (by omega) ls hl
        · refine xi_zt_eq (tgt := 21) hx hb ⟨by decide, by decide⟩ (by decide) dX1_allPasses_15 (by decide) ?_
          refine xi_inc (lv' := [(2, .int (iI ((k : Int) + 1))), (1, .int (iI (psT f1 k))), (0, .ref (a 0))]) hx hb dX1_allPasses_21 hl (k := 0) rfl (by decide) rfl (fun ls hl => ?_)
          refine lv_goto (tgt := 4) hx hb dX1_allPasses_24 (by decide) ?_
          have hq5 : ((k : Int) + 1) = ((k + 1) : Int) := by omega
          have hq6 : (psT f1 k) = (psT f1 (k + 1)) := by simp only [psT]; first | (rw [if_pos (by omega)]; done) | (rw [if_neg (by omega)]; omega) | (rw [if_neg (by omega)]; done)
          have hl : lv_has ls 3 [(2, .int (iI ((k : Int) + 1))), (1, .int (iI (psT f1 k))), (0, .ref (a 0))] := lv_sub hl [0, 1, 2] rfl
          have hl := Eq.mp (congrArg (fun z9 => lv_has ls 3 [(2, .int (iI z9)), (1, .int (iI (psT f1 k))), (0, .ref (a 0))]) hq5) hl
          have hl := Eq.mp (congrArg (fun z9 => lv_has ls 3 [(2, .int (iI ((k + 1) : Int))), (1, .int (iI z9)), (0, .ref (a 0))]) hq6) hl
          exact ih4 (k + 1) (by omega) (by omega) ls hl
  have hq7 : 0 = (0 : Int) := rfl
  have hq8 : 0 = (psT f1 0) := rfl
  have hl : lv_has ls 3 [(2, .int (iI 0)), (1, .int (iI 0)), (0, .ref (a 0))] := lv_sub hl [0, 1, 2] rfl
  have hl := Eq.mp (congrArg (fun z9 => lv_has ls 3 [(2, .int (iI z9)), (1, .int (iI 0)), (0, .ref (a 0))]) hq7) hl
  have hl := Eq.mp (congrArg (fun z9 => lv_has ls 3 [(2, .int (iI (0 : Int))), (1, .int (iI z9)), (0, .ref (a 0))]) hq8) hl
  exact lp4 (24 + 1) 0 (by omega) (by omega) ls hl
