abbrev rm_X5_in : Room := { frames := 0, cells := 0, slots := 0, locals := 0 }
set_option maxRecDepth 100000 in
set_option maxHeartbeats 4000000 in
theorem c_X5_in (l : Launch) (g : Gd) (v : Int) (lo : Int) (hi : Int) (h1 : LR v) (h2 : LR lo) (h3 : LR hi) : Met l yX5_in (wsOf yX5_in cX5_in 6 (some .boolean)) rm_X5_in (PX g (fun _ => True) [.long (lI v), .long (lI lo), .long (lI hi)]) (vp_Si (fun r9 => r9 = iI (bI (lo ≤ v ∧ v ≤ hi)))) 0 0 (fun _ => False) := by
  refine me (g := g) (by decide) rfl ?_
  intro pq eq s mq below meth cq C hnm hB ls hl
  obtain ⟨hx, hb, hr, hml, hown, hts, hlocks, hK⟩ := C
  have hown : s.vm.findClass RX5 = some mq.cls := hown
  have hl : lv_has ls 6 [(0, .long (lI v)), (2, .long (lI lo)), (4, .long (lI hi))] := hl
  refine lv_lload_n hx hb dX5_in_0 rfl (lv_at hl 0 rfl) ?_
  refine lv_lload_n hx hb dX5_in_1 rfl (lv_at hl 1 rfl) ?_
  refine xl_c_lt (tgt := 17) hx hb h1 h2 dX5_in_2 dX5_in_3 (by decide) (fun z1 => ?_) (fun z1 => ?_)
  · refine lv_iconst (v := iI (0)) hx hb dX5_in_17 (by decide) ?_
    exact W.zret hx hb hr (by decide) (fun t ht hW => ⟨_, rfl, by rw [bI_f (by omega)], ht⟩) (fun q h => by cases h) dX5_in_18
  · refine lv_lload_n hx hb dX5_in_6 rfl (lv_at hl 0 rfl) ?_
    refine lv_lload hx hb dX5_in_7 (lv_at hl 2 rfl) ?_
    refine xl_c_gt (tgt := 17) hx hb h1 h3 dX5_in_9 dX5_in_10 (by decide) (fun z2 => ?_) (fun z2 => ?_)
    · refine lv_iconst (v := iI (0)) hx hb dX5_in_17 (by decide) ?_
      exact W.zret hx hb hr (by decide) (fun t ht hW => ⟨_, rfl, by rw [bI_f (by omega)], ht⟩) (fun q h => by cases h) dX5_in_18
    · refine lv_iconst (v := iI (1)) hx hb dX5_in_13 (by decide) ?_
      refine lv_goto (tgt := 18) hx hb dX5_in_14 (by decide) ?_
      exact W.zret hx hb hr (by decide) (fun t ht hW => ⟨_, rfl, by rw [bI_t (by omega)], ht⟩) (fun q h => by cases h) dX5_in_18
abbrev rm_X5_isCell : Room := { frames := 1, cells := 0, slots := 0, locals := 25 }
set_option maxRecDepth 100000 in
set_option maxHeartbeats 4000000 in
theorem c_X5_isCell (l : Launch) (g : Gd) (c : Int) (h1 : IR c) : Met l yX5_isCell (wsOf yX5_isCell cX5_isCell 1 (some .boolean)) rm_X5_isCell (PX g (fun _ => True) [.int (iI c)]) (vp_Si (fun r9 => r9 = iI (bI (0 ≤ c ∧ c ≤ 23)))) 0 0 (fun _ => False) := by
  refine me (g := g) (by decide) rfl ?_
  intro pq eq s mq below meth cq C hnm hB ls hl
  obtain ⟨hx, hb, hr, hml, hown, hts, hlocks, hK⟩ := C
  have hown : s.vm.findClass RX5 = some mq.cls := hown
  have hl : lv_has ls 1 [(0, .int (iI c))] := hl
  have q1 := h1.1
  have q2 := h1.2
  refine lv_iload_n hx hb dX5_isCell_0 rfl (lv_at hl 0 rfl) ?_
  refine xi_i2l hx hb ⟨by omega, by omega⟩ dX5_isCell_1 ?_
  refine lv_lconst (v := lI (0)) hx hb dX5_isCell_2 (by decide) ?_
  refine xl_ldc hx hb hown hts kk_X5_51 dX5_isCell_3 ?_
  refine xu_b (P := 0 ≤ c ∧ c ≤ 23) (rS (rest := []) hx hb hml hown hts hK hl (c_X5_in l g c 0 23 (show LR c from ⟨by omega, by omega⟩) (show LR 0 from ⟨by omega, by omega⟩) (show LR 23 from ⟨by omega, by omega⟩)) lk_X5_53 trivial rfl rfl rfl (Rm.of rfl) rfl rfl dX5_isCell_6) (fun z1 => ?_) (fun z1 => ?_)
  · exact W.zret hx hb hr (by decide) (fun t ht hW => ⟨_, rfl, by rw [bI_t (by omega)], ht⟩) (fun q h => by cases h) dX5_isCell_9
  · exact W.zret hx hb hr (by decide) (fun t ht hW => ⟨_, rfl, by rw [bI_f (by omega)], ht⟩) (fun q h => by cases h) dX5_isCell_9
abbrev rm_X5_isKind : Room := { frames := 1, cells := 0, slots := 0, locals := 25 }
set_option maxRecDepth 100000 in
set_option maxHeartbeats 4000000 in
theorem c_X5_isKind (l : Launch) (g : Gd) (c : Int) (h1 : IR c) : Met l yX5_isKind (wsOf yX5_isKind cX5_isKind 1 (some .boolean)) rm_X5_isKind (PX g (fun _ => True) [.int (iI c)]) (vp_Si (fun r9 => r9 = iI (bI (0 ≤ c ∧ c ≤ 5)))) 0 0 (fun _ => False) := by
  refine me (g := g) (by decide) rfl ?_
  intro pq eq s mq below meth cq C hnm hB ls hl
  obtain ⟨hx, hb, hr, hml, hown, hts, hlocks, hK⟩ := C
  have hown : s.vm.findClass RX5 = some mq.cls := hown
  have hl : lv_has ls 1 [(0, .int (iI c))] := hl
  have q1 := h1.1
  have q2 := h1.2
  refine lv_iload_n hx hb dX5_isKind_0 rfl (lv_at hl 0 rfl) ?_
  refine xi_i2l hx hb ⟨by omega, by omega⟩ dX5_isKind_1 ?_
  refine lv_lconst (v := lI (0)) hx hb dX5_isKind_2 (by decide) ?_
  refine xl_ldc hx hb hown hts kk_X5_57 dX5_isKind_3 ?_
  refine xu_b (P := 0 ≤ c ∧ c ≤ 5) (rS (rest := []) hx hb hml hown hts hK hl (c_X5_in l g c 0 5 (show LR c from ⟨by omega, by omega⟩) (show LR 0 from ⟨by omega, by omega⟩) (show LR 5 from ⟨by omega, by omega⟩)) lk_X5_53 trivial rfl rfl rfl (Rm.of rfl) rfl rfl dX5_isKind_6) (fun z1 => ?_) (fun z1 => ?_)
  · exact W.zret hx hb hr (by decide) (fun t ht hW => ⟨_, rfl, by rw [bI_t (by omega)], ht⟩) (fun q h => by cases h) dX5_isKind_9
  · exact W.zret hx hb hr (by decide) (fun t ht hW => ⟨_, rfl, by rw [bI_f (by omega)], ht⟩) (fun q h => by cases h) dX5_isKind_9
abbrev rm_X5_isOne : Room := { frames := 1, cells := 0, slots := 0, locals := 25 }
set_option maxRecDepth 100000 in
set_option maxHeartbeats 4000000 in
theorem c_X5_isOne (l : Launch) (g : Gd) (c : Int) (h1 : IR c) : Met l yX5_isOne (wsOf yX5_isOne cX5_isOne 1 (some .boolean)) rm_X5_isOne (PX g (fun _ => True) [.int (iI c)]) (vp_Si (fun r9 => r9 = iI (bI (0 ≤ c ∧ c ≤ 3)))) 0 0 (fun _ => False) := by
  refine me (g := g) (by decide) rfl ?_
  intro pq eq s mq below meth cq C hnm hB ls hl
  obtain ⟨hx, hb, hr, hml, hown, hts, hlocks, hK⟩ := C
  have hown : s.vm.findClass RX5 = some mq.cls := hown
  have hl : lv_has ls 1 [(0, .int (iI c))] := hl
  have q1 := h1.1
  have q2 := h1.2
  refine lv_iload_n hx hb dX5_isOne_0 rfl (lv_at hl 0 rfl) ?_
  refine xi_i2l hx hb ⟨by omega, by omega⟩ dX5_isOne_1 ?_
  refine lv_lconst (v := lI (0)) hx hb dX5_isOne_2 (by decide) ?_
  refine xl_ldc hx hb hown hts kk_X5_82 dX5_isOne_3 ?_
  refine xu_b (P := 0 ≤ c ∧ c ≤ 3) (rS (rest := []) hx hb hml hown hts hK hl (c_X5_in l g c 0 3 (show LR c from ⟨by omega, by omega⟩) (show LR 0 from ⟨by omega, by omega⟩) (show LR 3 from ⟨by omega, by omega⟩)) lk_X5_53 trivial rfl rfl rfl (Rm.of rfl) rfl rfl dX5_isOne_6) (fun z1 => ?_) (fun z1 => ?_)
  · exact W.zret hx hb hr (by decide) (fun t ht hW => ⟨_, rfl, by rw [bI_t (by omega)], ht⟩) (fun q h => by cases h) dX5_isOne_9
  · exact W.zret hx hb hr (by decide) (fun t ht hW => ⟨_, rfl, by rw [bI_f (by omega)], ht⟩) (fun q h => by cases h) dX5_isOne_9
abbrev rm_X5_isSome : Room := { frames := 1, cells := 0, slots := 0, locals := 25 }
set_option maxRecDepth 100000 in
set_option maxHeartbeats 4000000 in
theorem c_X5_isSome (l : Launch) (g : Gd) (c : Int) (h1 : IR c) : Met l yX5_isSome (wsOf yX5_isSome cX5_isSome 1 (some .boolean)) rm_X5_isSome (PX g (fun _ => True) [.int (iI c)]) (vp_Si (fun r9 => r9 = iI (bI (0 ≤ c ∧ c ≤ 40)))) 0 0 (fun _ => False) := by
  refine me (g := g) (by decide) rfl ?_
  intro pq eq s mq below meth cq C hnm hB ls hl
  obtain ⟨hx, hb, hr, hml, hown, hts, hlocks, hK⟩ := C
  have hown : s.vm.findClass RX5 = some mq.cls := hown
  have hl : lv_has ls 1 [(0, .int (iI c))] := hl
  have q1 := h1.1
  have q2 := h1.2
  refine lv_iload_n hx hb dX5_isSome_0 rfl (lv_at hl 0 rfl) ?_
  refine xi_i2l hx hb ⟨by omega, by omega⟩ dX5_isSome_1 ?_
  refine lv_lconst (v := lI (0)) hx hb dX5_isSome_2 (by decide) ?_
  refine xl_ldc hx hb hown hts kk_X5_188 dX5_isSome_3 ?_
  refine xu_b (P := 0 ≤ c ∧ c ≤ 40) (rS (rest := []) hx hb hml hown hts hK hl (c_X5_in l g c 0 40 (show LR c from ⟨by omega, by omega⟩) (show LR 0 from ⟨by omega, by omega⟩) (show LR 40 from ⟨by omega, by omega⟩)) lk_X5_53 trivial rfl rfl rfl (Rm.of rfl) rfl rfl dX5_isSome_6) (fun z1 => ?_) (fun z1 => ?_)
  · exact W.zret hx hb hr (by decide) (fun t ht hW => ⟨_, rfl, by rw [bI_t (by omega)], ht⟩) (fun q h => by cases h) dX5_isSome_9
  · exact W.zret hx hb hr (by decide) (fun t ht hW => ⟨_, rfl, by rw [bI_f (by omega)], ht⟩) (fun q h => by cases h) dX5_isSome_9
abbrev rm_X5_isLetter : Room := { frames := 1, cells := 0, slots := 0, locals := 25 }
set_option maxRecDepth 100000 in
set_option maxHeartbeats 4000000 in
theorem c_X5_isLetter (l : Launch) (g : Gd) (c : Int) (h1 : IR c) : Met l yX5_isLetter (wsOf yX5_isLetter cX5_isLetter 1 (some .boolean)) rm_X5_isLetter (PX g (fun _ => True) [.int (iI c)]) (vp_Si (fun r9 => r9 = iI (bI (97 ≤ c ∧ c ≤ 122)))) 0 0 (fun _ => False) := by
  refine me (g := g) (by decide) rfl ?_
  intro pq eq s mq below meth cq C hnm hB ls hl
  obtain ⟨hx, hb, hr, hml, hown, hts, hlocks, hK⟩ := C
  have hown : s.vm.findClass RX5 = some mq.cls := hown
  have hl : lv_has ls 1 [(0, .int (iI c))] := hl
  have q1 := h1.1
  have q2 := h1.2
  refine lv_iload_n hx hb dX5_isLetter_0 rfl (lv_at hl 0 rfl) ?_
  refine xi_i2l hx hb ⟨by omega, by omega⟩ dX5_isLetter_1 ?_
  refine xl_ldc hx hb hown hts kk_X5_210 dX5_isLetter_2 ?_
  refine xl_ldc hx hb hown hts kk_X5_212 dX5_isLetter_5 ?_
  refine xu_b (P := 97 ≤ c ∧ c ≤ 122) (rS (rest := []) hx hb hml hown hts hK hl (c_X5_in l g c 97 122 (show LR c from ⟨by omega, by omega⟩) (show LR 97 from ⟨by omega, by omega⟩) (show LR 122 from ⟨by omega, by omega⟩)) lk_X5_53 trivial rfl rfl rfl (Rm.of rfl) rfl rfl dX5_isLetter_8) (fun z1 => ?_) (fun z1 => ?_)
  · exact W.zret hx hb hr (by decide) (fun t ht hW => ⟨_, rfl, by rw [bI_t (by omega)], ht⟩) (fun q h => by cases h) dX5_isLetter_11
  · exact W.zret hx hb hr (by decide) (fun t ht hW => ⟨_, rfl, by rw [bI_f (by omega)], ht⟩) (fun q h => by cases h) dX5_isLetter_11
abbrev rm_X5_isDigit : Room := { frames := 1, cells := 0, slots := 0, locals := 25 }
set_option maxRecDepth 100000 in
set_option maxHeartbeats 4000000 in
theorem c_X5_isDigit (l : Launch) (g : Gd) (c : Int) (h1 : IR c) : Met l yX5_isDigit (wsOf yX5_isDigit cX5_isDigit 1 (some .boolean)) rm_X5_isDigit (PX g (fun _ => True) [.int (iI c)]) (vp_Si (fun r9 => r9 = iI (bI (48 ≤ c ∧ c ≤ 57)))) 0 0 (fun _ => False) := by
  refine me (g := g) (by decide) rfl ?_
  intro pq eq s mq below meth cq C hnm hB ls hl
  obtain ⟨hx, hb, hr, hml, hown, hts, hlocks, hK⟩ := C
  have hown : s.vm.findClass RX5 = some mq.cls := hown
  have hl : lv_has ls 1 [(0, .int (iI c))] := hl
  have q1 := h1.1
  have q2 := h1.2
  refine lv_iload_n hx hb dX5_isDigit_0 rfl (lv_at hl 0 rfl) ?_
  refine xi_i2l hx hb ⟨by omega, by omega⟩ dX5_isDigit_1 ?_
  refine xl_ldc hx hb hown hts kk_X5_214 dX5_isDigit_2 ?_
  refine xl_ldc hx hb hown hts kk_X5_216 dX5_isDigit_5 ?_
  refine xu_b (P := 48 ≤ c ∧ c ≤ 57) (rS (rest := []) hx hb hml hown hts hK hl (c_X5_in l g c 48 57 (show LR c from ⟨by omega, by omega⟩) (show LR 48 from ⟨by omega, by omega⟩) (show LR 57 from ⟨by omega, by omega⟩)) lk_X5_53 trivial rfl rfl rfl (Rm.of rfl) rfl rfl dX5_isDigit_8) (fun z1 => ?_) (fun z1 => ?_)
  · exact W.zret hx hb hr (by decide) (fun t ht hW => ⟨_, rfl, by rw [bI_t (by omega)], ht⟩) (fun q h => by cases h) dX5_isDigit_11
  · exact W.zret hx hb hr (by decide) (fun t ht hW => ⟨_, rfl, by rw [bI_f (by omega)], ht⟩) (fun q h => by cases h) dX5_isDigit_11
abbrev rm_X5_finds : Room := { frames := 0, cells := 0, slots := 0, locals := 0 }
set_option maxRecDepth 100000 in
set_option maxHeartbeats 4000000 in
theorem c_X5_finds (l : Launch) (g : Gd) (a : Nat → Nat) (f1 : Int → Int) (f2 : Int → Int) (f3 : Int → Int) (f4 : Int → Int) (f5 : Int → Int) (f6 : Int → Int) (f7 : Int → Int) (f8 : Int → Int) (f9 : Int → Int) (f10 : Int → Int) (f11 : Int → Int) (f12 : Int → Int) (f13 : Int → Int) (f20 : Int) (f21 : Int) (f22 : Int) (f23 : Int) (f24 : Int) (f25 : Int) (x : Int) (sz : Nat) (h1 : 0 ≤ -1000000001 - x ∧ -1000000001 - x < 7) : Met l yX5_finds (wsOf yX5_finds cX5_finds 2 (some .int)) rm_X5_finds (PX g (wP g (wM g a f1 f2 f3 f4 f5 f6 f7 f8 f9 f10 f11 f12 f13 f20 f21 f22 f23 f24 f25) sz) [.ref (a 0), .int (iI x)]) (QMi g (fun _ : Unit => wM g a f1 f2 f3 f4 f5 (fb (-1000000000 - x) f6) f7 f8 f9 f10 f11 f12 f13 f20 f21 f22 f23 f24 f25) (fun r9 _ => r9 = iI x) (va_A (wM g a f1 f2 f3 f4 f5 f6 f7 f8 f9 f10 f11 f12 f13 f20 f21 f22 f23 f24 f25) sz)) 0 0 (va_A (wM g a f1 f2 f3 f4 f5 f6 f7 f8 f9 f10 f11 f12 f13 f20 f21 f22 f23 f24 f25) sz) := by
  refine me (g := g) (by decide) rfl ?_
  intro pq eq s mq below meth cq C hnm hB ls hl
  obtain ⟨hx, hb, hr, hml, hown, hts, hlocks, hK⟩ := C
  have hown : s.vm.findClass RX5 = some mq.cls := hown
  have hl : lv_has ls 2 [(0, .ref (a 0)), (1, .int (iI x))] := hl
  obtain ⟨hsz, hP, hD0⟩ := hB
  subst hsz
  have hD := hD0.self (sz := s.heap.size)
  have hA : ∀ q : Nat, s.heap.size ≤ q → va_A (wM g a f1 f2 f3 f4 f5 f6 f7 f8 f9 f10 f11 f12 f13 f20 f21 f22 f23 f24 f25) s.heap.size q := fun q h => Or.inr h
  have hS : va_S (va_A (wM g a f1 f2 f3 f4 f5 f6 f7 f8 f9 f10 f11 f12 f13 f20 f21 f22 f23 f24 f25) s.heap.size) s.heap s.heap [] := va_S.rf
  refine lv_aload_n hx hb dX5_finds_0 rfl (lv_at hl 0 rfl) ?_
  refine xg_X5 hx hb hts hown hK hP 0 rfl 5 (by decide) fk_X5_25 (v := .ref (a 6)) rfl dX5_finds_1 ?_
  refine xi_ldc hx hb hown hts kk_X5_50 dX5_finds_4 ?_
  refine lv_iload_n hx hb dX5_finds_6 rfl (lv_at hl 1 rfl) ?_
  refine xi_sub hx hb dX5_finds_7 ?_
  refine lv_dup2_11 hx hb dX5_finds_8 rfl rfl ?_
  refine xi_ald hx hb hK hP 6 (f := f6) rfl (i := (-1000000001) - x) ⟨by omega, by omega⟩ rfl dX5_finds_9 ?_
  refine lv_iconst (v := iI (1)) hx hb dX5_finds_10 (by decide) ?_
  refine xi_add hx hb dX5_finds_11 ?_
  refine xi_ast hx hb hK hP hD hS 6 (f := f6) rfl (i := (-1000000001) - x) (v := f6 ((-1000000001) - x) + 1) ⟨by omega, by omega⟩ rfl dX5_finds_12 (fun H locs hP hD hS => ?_)
  have hP : va_P g.1 vwCl (wM g a f1 f2 f3 f4 f5 (up f6 ((-1000000001) - x) (f6 ((-1000000001) - x) + 1)) f7 f8 f9 f10 f11 f12 f13 f20 f21 f22 f23 f24 f25) H := hP
  have hD : va_D (va_A (wM g a f1 f2 f3 f4 f5 f6 f7 f8 f9 f10 f11 f12 f13 f20 f21 f22 f23 f24 f25) s.heap.size) (wM g a f1 f2 f3 f4 f5 (up f6 ((-1000000001) - x) (f6 ((-1000000001) - x) + 1)) f7 f8 f9 f10 f11 f12 f13 f20 f21 f22 f23 f24 f25) := hD
  refine lv_iload_n hx hb dX5_finds_13 rfl (lv_at hl 1 rfl) ?_
  have he1 : (up f6 ((-1000000001) - x) (f6 ((-1000000001) - x) + 1)) = (fb (-1000000000 - x) f6) := by unfold fb; rw [if_neg (by omega), show -1000000000 - x - 1 = -1000000001 - x by omega]
  have hP := Eq.mp (congrArg (fun z9 => va_P g.1 vwCl (wM g a f1 f2 f3 f4 f5 z9 f7 f8 f9 f10 f11 f12 f13 f20 f21 f22 f23 f24 f25) H) he1) hP
  have hD := Eq.mp (congrArg (fun z9 => va_D (va_A (wM g a f1 f2 f3 f4 f5 f6 f7 f8 f9 f10 f11 f12 f13 f20 f21 f22 f23 f24 f25) s.heap.size) (wM g a f1 f2 f3 f4 f5 z9 f7 f8 f9 f10 f11 f12 f13 f20 f21 f22 f23 f24 f25)) he1) hD
  have hP : va_P g.1 vwCl (wM g a f1 f2 f3 f4 f5 (fb (-1000000000 - x) f6) f7 f8 f9 f10 f11 f12 f13 f20 f21 f22 f23 f24 f25) H := hP
  have hD : va_D (va_A (wM g a f1 f2 f3 f4 f5 f6 f7 f8 f9 f10 f11 f12 f13 f20 f21 f22 f23 f24 f25) s.heap.size) (wM g a f1 f2 f3 f4 f5 (fb (-1000000000 - x) f6) f7 f8 f9 f10 f11 f12 f13 f20 f21 f22 f23 f24 f25) := hD
  exact W.iret hx hb hr (fun t ht hW => ⟨⟨_, (), rfl, rfl, by rw [ht]; exact hP, hD⟩, hS.F ht⟩) hS.2.2 dX5_finds_14
abbrev rm_X5_saves : Room := { frames := 0, cells := 0, slots := 0, locals := 0 }
set_option maxRecDepth 100000 in
set_option maxHeartbeats 4000000 in
theorem c_X5_saves (l : Launch) (g : Gd) (a : Nat → Nat) (f1 : Int → Int) (f2 : Int → Int) (f3 : Int → Int) (f4 : Int → Int) (f5 : Int → Int) (f6 : Int → Int) (f7 : Int → Int) (f8 : Int → Int) (f9 : Int → Int) (f10 : Int → Int) (f11 : Int → Int) (f12 : Int → Int) (f13 : Int → Int) (f20 : Int) (f21 : Int) (f22 : Int) (f23 : Int) (f24 : Int) (f25 : Int) (sz : Nat)  : Met l yX5_saves (wsOf yX5_saves cX5_saves 2 none) rm_X5_saves (PX g (wP g (wM g a f1 f2 f3 f4 f5 f6 f7 f8 f9 f10 f11 f12 f13 f20 f21 f22 f23 f24 f25) sz) [.ref (a 0)]) (QMv g (fun _ : Unit => wM g a f1 f2 f1 f4 f5 f6 f7 f8 f9 f10 f11 f12 f13 f20 f21 f22 f23 f24 f25) (fun _ => True) (va_A (wM g a f1 f2 f3 f4 f5 f6 f7 f8 f9 f10 f11 f12 f13 f20 f21 f22 f23 f24 f25) sz)) 0 0 (va_A (wM g a f1 f2 f3 f4 f5 f6 f7 f8 f9 f10 f11 f12 f13 f20 f21 f22 f23 f24 f25) sz) := by
  refine me (g := g) (by decide) rfl ?_
  intro pq eq s mq below meth cq C hnm hB ls hl
  obtain ⟨hx, hb, hr, hml, hown, hts, hlocks, hK⟩ := C
  have hown : s.vm.findClass RX5 = some mq.cls := hown
  have hl : lv_has ls 2 [(0, .ref (a 0))] := hl
  obtain ⟨hsz, hP, hD0⟩ := hB
  subst hsz
  have hD := hD0.self (sz := s.heap.size)
  have hA : ∀ q : Nat, s.heap.size ≤ q → va_A (wM g a f1 f2 f3 f4 f5 f6 f7 f8 f9 f10 f11 f12 f13 f20 f21 f22 f23 f24 f25) s.heap.size q := fun q h => Or.inr h
  have hS : va_S (va_A (wM g a f1 f2 f3 f4 f5 f6 f7 f8 f9 f10 f11 f12 f13 f20 f21 f22 f23 f24 f25) s.heap.size) s.heap s.heap [] := va_S.rf
  refine lv_iconst (v := iI (0)) hx hb dX5_saves_0 (by decide) ?_
  refine lv_istore_n (lv' := [(1, .int (iI 0)), (0, .ref (a 0))]) hx hb dX5_saves_1 rfl hl (by decide) rfl (fun ls hl => ?_)
  have lp2 : ∀ (n2 : Nat) (k : Int), (0 ≤ k ∧ k ≤ 101) → (101 - k).toNat < n2 → ∀ ls : Array Slot, lv_has ls 2 [(1, .int (iI k)), (0, .ref (a 0))] → ∀ (H : Heap) (locs : List Loc), va_P g.1 vwCl (wM g a f1 f2 (cpT f1 f3 k) f4 f5 f6 f7 f8 f9 f10 f11 f12 f13 f20 f21 f22 f23 f24 f25) H → va_D (va_A (wM g a f1 f2 f3 f4 f5 f6 f7 f8 f9 f10 f11 f12 f13 f20 f21 f22 f23 f24 f25) s.heap.size) (wM g a f1 f2 (cpT f1 f3 k) f4 f5 f6 f7 f8 f9 f10 f11 f12 f13 f20 f21 f22 f23 f24 f25) → va_S (va_A (wM g a f1 f2 f3 f4 f5 f6 f7 f8 f9 f10 f11 f12 f13 f20 f21 f22 f23 f24 f25) s.heap.size) s.heap H locs → W pq l eq rm_X5_saves s mq [.ref (a 0)].toArray below meth cq H locs 0 0 (MQ below (QMv g (fun _ : Unit => wM g a f1 f2 f1 f4 f5 f6 f7 f8 f9 f10 f11 f12 f13 f20 f21 f22 f23 f24 f25) (fun _ => True) (va_A (wM g a f1 f2 f3 f4 f5 f6 f7 f8 f9 f10 f11 f12 f13 f20 f21 f22 f23 f24 f25) s.heap.size)) [.ref (a 0)].toArray s 0 0 (va_A (wM g a f1 f2 f3 f4 f5 f6 f7 f8 f9 f10 f11 f12 f13 f20 f21 f22 f23 f24 f25) s.heap.size)) (F0 mq 2 ls []) := by
    intro n2
    induction n2 with
    | zero => intro k i2_1 hm; exact absurd hm (Nat.not_lt_zero _)
    | succ n2 ih2 =>
      intro k i2_1 hm2 ls hl H locs hP hD hS
      refine lv_iload_n hx hb dX5_saves_2 rfl (lv_at hl 0 rfl) ?_
      refine lv_bipush (v := iI (101)) hx hb dX5_saves_3 (by decide) ?_
      refine xi_c_ge (tgt := 26) hx hb ⟨by omega, by omega⟩ ⟨by decide, by decide⟩ dX5_saves_5 (by decide) (fun z1 => ?_) (fun z1 => ?_)
      · have hP := P_cong hP 3 (y := (101, .inl (ar f1))) rfl (ar_cong (fun j h0 h1 => cpT_in h0 (by omega)))
        have hD := va_D.set (e := .inl (g.2.1, (101, .inl (ar f1)))) hD (p := 3) rfl
        have hP : va_P g.1 vwCl (wM g a f1 f2 f1 f4 f5 f6 f7 f8 f9 f10 f11 f12 f13 f20 f21 f22 f23 f24 f25) H := hP
        have hD : va_D (va_A (wM g a f1 f2 f3 f4 f5 f6 f7 f8 f9 f10 f11 f12 f13 f20 f21 f22 f23 f24 f25) s.heap.size) (wM g a f1 f2 f1 f4 f5 f6 f7 f8 f9 f10 f11 f12 f13 f20 f21 f22 f23 f24 f25) := hD
        exact W.vret hx hb hr (fun t ht hW => ⟨⟨(), rfl, trivial, by rw [ht]; exact hP, hD⟩, hS.F ht⟩) hS.2.2 dX5_saves_26
      · refine lv_aload_n hx hb dX5_saves_8 rfl (lv_at hl 1 rfl) ?_
        refine xg_X5 hx hb hts hown hK hP 0 rfl 2 (by decide) fk_X5_16 (v := .ref (a 3)) rfl dX5_saves_9 ?_
        refine lv_iload_n hx hb dX5_saves_12 rfl (lv_at hl 0 rfl) ?_
        refine lv_aload_n hx hb dX5_saves_13 rfl (lv_at hl 1 rfl) ?_
        refine xg_X5 hx hb hts hown hK hP 0 rfl 0 (by decide) fk_X5_7 (v := .ref (a 1)) rfl dX5_saves_14 ?_
        refine lv_iload_n hx hb dX5_saves_17 rfl (lv_at hl 0 rfl) ?_
        refine xi_ald hx hb hK hP 1 (f := f1) rfl (i := k) ⟨by omega, by omega⟩ rfl dX5_saves_18 ?_
        refine xi_ast hx hb hK hP hD hS 3 (f := cpT f1 f3 k) rfl (i := k) (v := f1 k) ⟨by omega, by omega⟩ rfl dX5_saves_19 (fun H locs hP hD hS => ?_)
        have hP : va_P g.1 vwCl (wM g a f1 f2 (up (cpT f1 f3 k) k (f1 k)) f4 f5 f6 f7 f8 f9 f10 f11 f12 f13 f20 f21 f22 f23 f24 f25) H := hP
        have hD : va_D (va_A (wM g a f1 f2 f3 f4 f5 f6 f7 f8 f9 f10 f11 f12 f13 f20 f21 f22 f23 f24 f25) s.heap.size) (wM g a f1 f2 (up (cpT f1 f3 k) k (f1 k)) f4 f5 f6 f7 f8 f9 f10 f11 f12 f13 f20 f21 f22 f23 f24 f25) := hD
        refine xi_inc (lv' := [(1, .int (iI (k + 1))), (0, .ref (a 0))]) hx hb dX5_saves_20 hl (k := 0) rfl (by decide) rfl (fun ls hl => ?_)
        refine lv_goto (tgt := 2) hx hb dX5_saves_23 (by decide) ?_
        have hq2 : (up (cpT f1 f3 k) k (f1 k)) = (cpT f1 f3 (k + 1)) := cpT_S f1 f3 i2_1.1
        have hP := Eq.mp (congrArg (fun z9 => va_P g.1 vwCl (wM g a f1 f2 z9 f4 f5 f6 f7 f8 f9 f10 f11 f12 f13 f20 f21 f22 f23 f24 f25) H) hq2) hP
        have hD := Eq.mp (congrArg (fun z9 => va_D (va_A (wM g a f1 f2 f3 f4 f5 f6 f7 f8 f9 f10 f11 f12 f13 f20 f21 f22 f23 f24 f25) s.heap.size) (wM g a f1 f2 z9 f4 f5 f6 f7 f8 f9 f10 f11 f12 f13 f20 f21 f22 f23 f24 f25)) hq2) hD
        exact ih2 (k + 1) (by omega) (by omega) ls (lv_sub hl [0, 1] rfl) H locs hP hD hS
  have hq3 : f3 = (cpT f1 f3 0) := cpT_0 f1 f3
  have hP := Eq.mp (congrArg (fun z9 => va_P g.1 vwCl (wM g a f1 f2 z9 f4 f5 f6 f7 f8 f9 f10 f11 f12 f13 f20 f21 f22 f23 f24 f25) s.heap) hq3) hP
  have hD := Eq.mp (congrArg (fun z9 => va_D (va_A (wM g a f1 f2 f3 f4 f5 f6 f7 f8 f9 f10 f11 f12 f13 f20 f21 f22 f23 f24 f25) s.heap.size) (wM g a f1 f2 z9 f4 f5 f6 f7 f8 f9 f10 f11 f12 f13 f20 f21 f22 f23 f24 f25)) hq3) hD
  exact lp2 (101 + 1) 0 (by omega) (by omega) ls (lv_sub hl [0, 1] rfl) s.heap [] hP hD hS
abbrev rm_X5_putsBack : Room := { frames := 0, cells := 0, slots := 0, locals := 0 }
set_option maxRecDepth 100000 in
set_option maxHeartbeats 4000000 in
theorem c_X5_putsBack (l : Launch) (g : Gd) (a : Nat → Nat) (f1 : Int → Int) (f2 : Int → Int) (f3 : Int → Int) (f4 : Int → Int) (f5 : Int → Int) (f6 : Int → Int) (f7 : Int → Int) (f8 : Int → Int) (f9 : Int → Int) (f10 : Int → Int) (f11 : Int → Int) (f12 : Int → Int) (f13 : Int → Int) (f20 : Int) (f21 : Int) (f22 : Int) (f23 : Int) (f24 : Int) (f25 : Int) (sz : Nat)  : Met l yX5_putsBack (wsOf yX5_putsBack cX5_putsBack 2 none) rm_X5_putsBack (PX g (wP g (wM g a f1 f2 f3 f4 f5 f6 f7 f8 f9 f10 f11 f12 f13 f20 f21 f22 f23 f24 f25) sz) [.ref (a 0)]) (QMv g (fun _ : Unit => wM g a f3 f2 f3 f4 f5 f6 f7 f8 f9 f10 f11 f12 f13 f20 f21 f22 f23 f24 f25) (fun _ => True) (va_A (wM g a f1 f2 f3 f4 f5 f6 f7 f8 f9 f10 f11 f12 f13 f20 f21 f22 f23 f24 f25) sz)) 0 0 (va_A (wM g a f1 f2 f3 f4 f5 f6 f7 f8 f9 f10 f11 f12 f13 f20 f21 f22 f23 f24 f25) sz) := by
  refine me (g := g) (by decide) rfl ?_
  intro pq eq s mq below meth cq C hnm hB ls hl
  obtain ⟨hx, hb, hr, hml, hown, hts, hlocks, hK⟩ := C
  have hown : s.vm.findClass RX5 = some mq.cls := hown
  have hl : lv_has ls 2 [(0, .ref (a 0))] := hl
  obtain ⟨hsz, hP, hD0⟩ := hB
  subst hsz
  have hD := hD0.self (sz := s.heap.size)
  have hA : ∀ q : Nat, s.heap.size ≤ q → va_A (wM g a f1 f2 f3 f4 f5 f6 f7 f8 f9 f10 f11 f12 f13 f20 f21 f22 f23 f24 f25) s.heap.size q := fun q h => Or.inr h
  have hS : va_S (va_A (wM g a f1 f2 f3 f4 f5 f6 f7 f8 f9 f10 f11 f12 f13 f20 f21 f22 f23 f24 f25) s.heap.size) s.heap s.heap [] := va_S.rf
  refine lv_iconst (v := iI (0)) hx hb dX5_putsBack_0 (by decide) ?_
  refine lv_istore_n (lv' := [(1, .int (iI 0)), (0, .ref (a 0))]) hx hb dX5_putsBack_1 rfl hl (by decide) rfl (fun ls hl => ?_)
  have lp2 : ∀ (n2 : Nat) (k : Int), (0 ≤ k ∧ k ≤ 101) → (101 - k).toNat < n2 → ∀ ls : Array Slot, lv_has ls 2 [(1, .int (iI k)), (0, .ref (a 0))] → ∀ (H : Heap) (locs : List Loc), va_P g.1 vwCl (wM g a (cpT f3 f1 k) f2 f3 f4 f5 f6 f7 f8 f9 f10 f11 f12 f13 f20 f21 f22 f23 f24 f25) H → va_D (va_A (wM g a f1 f2 f3 f4 f5 f6 f7 f8 f9 f10 f11 f12 f13 f20 f21 f22 f23 f24 f25) s.heap.size) (wM g a (cpT f3 f1 k) f2 f3 f4 f5 f6 f7 f8 f9 f10 f11 f12 f13 f20 f21 f22 f23 f24 f25) → va_S (va_A (wM g a f1 f2 f3 f4 f5 f6 f7 f8 f9 f10 f11 f12 f13 f20 f21 f22 f23 f24 f25) s.heap.size) s.heap H locs → W pq l eq rm_X5_putsBack s mq [.ref (a 0)].toArray below meth cq H locs 0 0 (MQ below (QMv g (fun _ : Unit => wM g a f3 f2 f3 f4 f5 f6 f7 f8 f9 f10 f11 f12 f13 f20 f21 f22 f23 f24 f25) (fun _ => True) (va_A (wM g a f1 f2 f3 f4 f5 f6 f7 f8 f9 f10 f11 f12 f13 f20 f21 f22 f23 f24 f25) s.heap.size)) [.ref (a 0)].toArray s 0 0 (va_A (wM g a f1 f2 f3 f4 f5 f6 f7 f8 f9 f10 f11 f12 f13 f20 f21 f22 f23 f24 f25) s.heap.size)) (F0 mq 2 ls []) := by
    intro n2
    induction n2 with
    | zero => intro k i2_1 hm; exact absurd hm (Nat.not_lt_zero _)
    | succ n2 ih2 =>
      intro k i2_1 hm2 ls hl H locs hP hD hS
      refine lv_iload_n hx hb dX5_putsBack_2 rfl (lv_at hl 0 rfl) ?_
      refine lv_bipush (v := iI (101)) hx hb dX5_putsBack_3 (by decide) ?_
      refine xi_c_ge (tgt := 26) hx hb ⟨by omega, by omega⟩ ⟨by decide, by decide⟩ dX5_putsBack_5 (by decide) (fun z1 => ?_) (fun z1 => ?_)
      · have hP := P_cong hP 1 (y := (101, .inl (ar f3))) rfl (ar_cong (fun j h0 h1 => cpT_in h0 (by omega)))
        have hD := va_D.set (e := .inl (g.2.1, (101, .inl (ar f3)))) hD (p := 1) rfl
        have hP : va_P g.1 vwCl (wM g a f3 f2 f3 f4 f5 f6 f7 f8 f9 f10 f11 f12 f13 f20 f21 f22 f23 f24 f25) H := hP
        have hD : va_D (va_A (wM g a f1 f2 f3 f4 f5 f6 f7 f8 f9 f10 f11 f12 f13 f20 f21 f22 f23 f24 f25) s.heap.size) (wM g a f3 f2 f3 f4 f5 f6 f7 f8 f9 f10 f11 f12 f13 f20 f21 f22 f23 f24 f25) := hD
        exact W.vret hx hb hr (fun t ht hW => ⟨⟨(), rfl, trivial, by rw [ht]; exact hP, hD⟩, hS.F ht⟩) hS.2.2 dX5_putsBack_26
      · refine lv_aload_n hx hb dX5_putsBack_8 rfl (lv_at hl 1 rfl) ?_
        refine xg_X5 hx hb hts hown hK hP 0 rfl 0 (by decide) fk_X5_7 (v := .ref (a 1)) rfl dX5_putsBack_9 ?_
        refine lv_iload_n hx hb dX5_putsBack_12 rfl (lv_at hl 0 rfl) ?_
        refine lv_aload_n hx hb dX5_putsBack_13 rfl (lv_at hl 1 rfl) ?_
        refine xg_X5 hx hb hts hown hK hP 0 rfl 2 (by decide) fk_X5_16 (v := .ref (a 3)) rfl dX5_putsBack_14 ?_
        refine lv_iload_n hx hb dX5_putsBack_17 rfl (lv_at hl 0 rfl) ?_
        refine xi_ald hx hb hK hP 3 (f := f3) rfl (i := k) ⟨by omega, by omega⟩ rfl dX5_putsBack_18 ?_
        refine xi_ast hx hb hK hP hD hS 1 (f := cpT f3 f1 k) rfl (i := k) (v := f3 k) ⟨by omega, by omega⟩ rfl dX5_putsBack_19 (fun H locs hP hD hS => ?_)
        have hP : va_P g.1 vwCl (wM g a (up (cpT f3 f1 k) k (f3 k)) f2 f3 f4 f5 f6 f7 f8 f9 f10 f11 f12 f13 f20 f21 f22 f23 f24 f25) H := hP
        have hD : va_D (va_A (wM g a f1 f2 f3 f4 f5 f6 f7 f8 f9 f10 f11 f12 f13 f20 f21 f22 f23 f24 f25) s.heap.size) (wM g a (up (cpT f3 f1 k) k (f3 k)) f2 f3 f4 f5 f6 f7 f8 f9 f10 f11 f12 f13 f20 f21 f22 f23 f24 f25) := hD
        refine xi_inc (lv' := [(1, .int (iI (k + 1))), (0, .ref (a 0))]) hx hb dX5_putsBack_20 hl (k := 0) rfl (by decide) rfl (fun ls hl => ?_)
        refine lv_goto (tgt := 2) hx hb dX5_putsBack_23 (by decide) ?_
        have hq2 : (up (cpT f3 f1 k) k (f3 k)) = (cpT f3 f1 (k + 1)) := cpT_S f3 f1 i2_1.1
        have hP := Eq.mp (congrArg (fun z9 => va_P g.1 vwCl (wM g a z9 f2 f3 f4 f5 f6 f7 f8 f9 f10 f11 f12 f13 f20 f21 f22 f23 f24 f25) H) hq2) hP
        have hD := Eq.mp (congrArg (fun z9 => va_D (va_A (wM g a f1 f2 f3 f4 f5 f6 f7 f8 f9 f10 f11 f12 f13 f20 f21 f22 f23 f24 f25) s.heap.size) (wM g a z9 f2 f3 f4 f5 f6 f7 f8 f9 f10 f11 f12 f13 f20 f21 f22 f23 f24 f25)) hq2) hD
        exact ih2 (k + 1) (by omega) (by omega) ls (lv_sub hl [0, 1] rfl) H locs hP hD hS
  have hq3 : f1 = (cpT f3 f1 0) := cpT_0 f3 f1
  have hP := Eq.mp (congrArg (fun z9 => va_P g.1 vwCl (wM g a z9 f2 f3 f4 f5 f6 f7 f8 f9 f10 f11 f12 f13 f20 f21 f22 f23 f24 f25) s.heap) hq3) hP
  have hD := Eq.mp (congrArg (fun z9 => va_D (va_A (wM g a f1 f2 f3 f4 f5 f6 f7 f8 f9 f10 f11 f12 f13 f20 f21 f22 f23 f24 f25) s.heap.size) (wM g a z9 f2 f3 f4 f5 f6 f7 f8 f9 f10 f11 f12 f13 f20 f21 f22 f23 f24 f25)) hq3) hD
  exact lp2 (101 + 1) 0 (by omega) (by omega) ls (lv_sub hl [0, 1] rfl) s.heap [] hP hD hS
abbrev rm_X5_laysAside : Room := { frames := 0, cells := 0, slots := 0, locals := 0 }
set_option maxRecDepth 100000 in
set_option maxHeartbeats 4000000 in
theorem c_X5_laysAside (l : Launch) (g : Gd) (a : Nat → Nat) (f1 : Int → Int) (f2 : Int → Int) (f3 : Int → Int) (f4 : Int → Int) (f5 : Int → Int) (f6 : Int → Int) (f7 : Int → Int) (f8 : Int → Int) (f9 : Int → Int) (f10 : Int → Int) (f11 : Int → Int) (f12 : Int → Int) (f13 : Int → Int) (f20 : Int) (f21 : Int) (f22 : Int) (f23 : Int) (f24 : Int) (f25 : Int) (sz : Nat)  : Met l yX5_laysAside (wsOf yX5_laysAside cX5_laysAside 2 none) rm_X5_laysAside (PX g (wP g (wM g a f1 f2 f3 f4 f5 f6 f7 f8 f9 f10 f11 f12 f13 f20 f21 f22 f23 f24 f25) sz) [.ref (a 0)]) (QMv g (fun _ : Unit => wM g a f1 f2 f3 f1 f5 f6 f7 f8 f9 f10 f11 f12 f13 f20 f21 f22 f23 f24 f25) (fun _ => True) (va_A (wM g a f1 f2 f3 f4 f5 f6 f7 f8 f9 f10 f11 f12 f13 f20 f21 f22 f23 f24 f25) sz)) 0 0 (va_A (wM g a f1 f2 f3 f4 f5 f6 f7 f8 f9 f10 f11 f12 f13 f20 f21 f22 f23 f24 f25) sz) := by
  refine me (g := g) (by decide) rfl ?_
  intro pq eq s mq below meth cq C hnm hB ls hl
  obtain ⟨hx, hb, hr, hml, hown, hts, hlocks, hK⟩ := C
  have hown : s.vm.findClass RX5 = some mq.cls := hown
  have hl : lv_has ls 2 [(0, .ref (a 0))] := hl
  obtain ⟨hsz, hP, hD0⟩ := hB
  subst hsz
  have hD := hD0.self (sz := s.heap.size)
  have hA : ∀ q : Nat, s.heap.size ≤ q → va_A (wM g a f1 f2 f3 f4 f5 f6 f7 f8 f9 f10 f11 f12 f13 f20 f21 f22 f23 f24 f25) s.heap.size q := fun q h => Or.inr h
  have hS : va_S (va_A (wM g a f1 f2 f3 f4 f5 f6 f7 f8 f9 f10 f11 f12 f13 f20 f21 f22 f23 f24 f25) s.heap.size) s.heap s.heap [] := va_S.rf
  refine lv_iconst (v := iI (0)) hx hb dX5_laysAside_0 (by decide) ?_
  refine lv_istore_n (lv' := [(1, .int (iI 0)), (0, .ref (a 0))]) hx hb dX5_laysAside_1 rfl hl (by decide) rfl (fun ls hl => ?_)
  have lp2 : ∀ (n2 : Nat) (k : Int), (0 ≤ k ∧ k ≤ 101) → (101 - k).toNat < n2 → ∀ ls : Array Slot, lv_has ls 2 [(1, .int (iI k)), (0, .ref (a 0))] → ∀ (H : Heap) (locs : List Loc), va_P g.1 vwCl (wM g a f1 f2 f3 (cpT f1 f4 k) f5 f6 f7 f8 f9 f10 f11 f12 f13 f20 f21 f22 f23 f24 f25) H → va_D (va_A (wM g a f1 f2 f3 f4 f5 f6 f7 f8 f9 f10 f11 f12 f13 f20 f21 f22 f23 f24 f25) s.heap.size) (wM g a f1 f2 f3 (cpT f1 f4 k) f5 f6 f7 f8 f9 f10 f11 f12 f13 f20 f21 f22 f23 f24 f25) → va_S (va_A (wM g a f1 f2 f3 f4 f5 f6 f7 f8 f9 f10 f11 f12 f13 f20 f21 f22 f23 f24 f25) s.heap.size) s.heap H locs → W pq l eq rm_X5_laysAside s mq [.ref (a 0)].toArray below meth cq H locs 0 0 (MQ below (QMv g (fun _ : Unit => wM g a f1 f2 f3 f1 f5 f6 f7 f8 f9 f10 f11 f12 f13 f20 f21 f22 f23 f24 f25) (fun _ => True) (va_A (wM g a f1 f2 f3 f4 f5 f6 f7 f8 f9 f10 f11 f12 f13 f20 f21 f22 f23 f24 f25) s.heap.size)) [.ref (a 0)].toArray s 0 0 (va_A (wM g a f1 f2 f3 f4 f5 f6 f7 f8 f9 f10 f11 f12 f13 f20 f21 f22 f23 f24 f25) s.heap.size)) (F0 mq 2 ls []) := by
    intro n2
    induction n2 with
    | zero => intro k i2_1 hm; exact absurd hm (Nat.not_lt_zero _)
    | succ n2 ih2 =>
      intro k i2_1 hm2 ls hl H locs hP hD hS
      refine lv_iload_n hx hb dX5_laysAside_2 rfl (lv_at hl 0 rfl) ?_
      refine lv_bipush (v := iI (101)) hx hb dX5_laysAside_3 (by decide) ?_
      refine xi_c_ge (tgt := 26) hx hb ⟨by omega, by omega⟩ ⟨by decide, by decide⟩ dX5_laysAside_5 (by decide) (fun z1 => ?_) (fun z1 => ?_)
      · have hP := P_cong hP 4 (y := (101, .inl (ar f1))) rfl (ar_cong (fun j h0 h1 => cpT_in h0 (by omega)))
        have hD := va_D.set (e := .inl (g.2.1, (101, .inl (ar f1)))) hD (p := 4) rfl
        have hP : va_P g.1 vwCl (wM g a f1 f2 f3 f1 f5 f6 f7 f8 f9 f10 f11 f12 f13 f20 f21 f22 f23 f24 f25) H := hP
        have hD : va_D (va_A (wM g a f1 f2 f3 f4 f5 f6 f7 f8 f9 f10 f11 f12 f13 f20 f21 f22 f23 f24 f25) s.heap.size) (wM g a f1 f2 f3 f1 f5 f6 f7 f8 f9 f10 f11 f12 f13 f20 f21 f22 f23 f24 f25) := hD
        exact W.vret hx hb hr (fun t ht hW => ⟨⟨(), rfl, trivial, by rw [ht]; exact hP, hD⟩, hS.F ht⟩) hS.2.2 dX5_laysAside_26
      · refine lv_aload_n hx hb dX5_laysAside_8 rfl (lv_at hl 1 rfl) ?_
        refine xg_X5 hx hb hts hown hK hP 0 rfl 3 (by decide) fk_X5_19 (v := .ref (a 4)) rfl dX5_laysAside_9 ?_
        refine lv_iload_n hx hb dX5_laysAside_12 rfl (lv_at hl 0 rfl) ?_
        refine lv_aload_n hx hb dX5_laysAside_13 rfl (lv_at hl 1 rfl) ?_
        refine xg_X5 hx hb hts hown hK hP 0 rfl 0 (by decide) fk_X5_7 (v := .ref (a 1)) rfl dX5_laysAside_14 ?_
        refine lv_iload_n hx hb dX5_laysAside_17 rfl (lv_at hl 0 rfl) ?_
        refine xi_ald hx hb hK hP 1 (f := f1) rfl (i := k) ⟨by omega, by omega⟩ rfl dX5_laysAside_18 ?_
        refine xi_ast hx hb hK hP hD hS 4 (f := cpT f1 f4 k) rfl (i := k) (v := f1 k) ⟨by omega, by omega⟩ rfl dX5_laysAside_19 (fun H locs hP hD hS => ?_)
        have hP : va_P g.1 vwCl (wM g a f1 f2 f3 (up (cpT f1 f4 k) k (f1 k)) f5 f6 f7 f8 f9 f10 f11 f12 f13 f20 f21 f22 f23 f24 f25) H := hP
        have hD : va_D (va_A (wM g a f1 f2 f3 f4 f5 f6 f7 f8 f9 f10 f11 f12 f13 f20 f21 f22 f23 f24 f25) s.heap.size) (wM g a f1 f2 f3 (up (cpT f1 f4 k) k (f1 k)) f5 f6 f7 f8 f9 f10 f11 f12 f13 f20 f21 f22 f23 f24 f25) := hD
        refine xi_inc (lv' := [(1, .int (iI (k + 1))), (0, .ref (a 0))]) hx hb dX5_laysAside_20 hl (k := 0) rfl (by decide) rfl (fun ls hl => ?_)
        refine lv_goto (tgt := 2) hx hb dX5_laysAside_23 (by decide) ?_
        have hq2 : (up (cpT f1 f4 k) k (f1 k)) = (cpT f1 f4 (k + 1)) := cpT_S f1 f4 i2_1.1
        have hP := Eq.mp (congrArg (fun z9 => va_P g.1 vwCl (wM g a f1 f2 f3 z9 f5 f6 f7 f8 f9 f10 f11 f12 f13 f20 f21 f22 f23 f24 f25) H) hq2) hP
        have hD := Eq.mp (congrArg (fun z9 => va_D (va_A (wM g a f1 f2 f3 f4 f5 f6 f7 f8 f9 f10 f11 f12 f13 f20 f21 f22 f23 f24 f25) s.heap.size) (wM g a f1 f2 f3 z9 f5 f6 f7 f8 f9 f10 f11 f12 f13 f20 f21 f22 f23 f24 f25)) hq2) hD
        exact ih2 (k + 1) (by omega) (by omega) ls (lv_sub hl [0, 1] rfl) H locs hP hD hS
  have hq3 : f4 = (cpT f1 f4 0) := cpT_0 f1 f4
  have hP := Eq.mp (congrArg (fun z9 => va_P g.1 vwCl (wM g a f1 f2 f3 z9 f5 f6 f7 f8 f9 f10 f11 f12 f13 f20 f21 f22 f23 f24 f25) s.heap) hq3) hP
  have hD := Eq.mp (congrArg (fun z9 => va_D (va_A (wM g a f1 f2 f3 f4 f5 f6 f7 f8 f9 f10 f11 f12 f13 f20 f21 f22 f23 f24 f25) s.heap.size) (wM g a f1 f2 f3 z9 f5 f6 f7 f8 f9 f10 f11 f12 f13 f20 f21 f22 f23 f24 f25)) hq3) hD
  exact lp2 (101 + 1) 0 (by omega) (by omega) ls (lv_sub hl [0, 1] rfl) s.heap [] hP hD hS
abbrev rm_X5_takesBack : Room := { frames := 0, cells := 0, slots := 0, locals := 0 }
set_option maxRecDepth 100000 in
set_option maxHeartbeats 4000000 in
theorem c_X5_takesBack (l : Launch) (g : Gd) (a : Nat → Nat) (f1 : Int → Int) (f2 : Int → Int) (f3 : Int → Int) (f4 : Int → Int) (f5 : Int → Int) (f6 : Int → Int) (f7 : Int → Int) (f8 : Int → Int) (f9 : Int → Int) (f10 : Int → Int) (f11 : Int → Int) (f12 : Int → Int) (f13 : Int → Int) (f20 : Int) (f21 : Int) (f22 : Int) (f23 : Int) (f24 : Int) (f25 : Int) (v : Int32) (sz : Nat)  : Met l yX5_takesBack (wsOf yX5_takesBack cX5_takesBack 3 (some .int)) rm_X5_takesBack (PX g (wP g (wM g a f1 f2 f3 f4 f5 f6 f7 f8 f9 f10 f11 f12 f13 f20 f21 f22 f23 f24 f25) sz) [.ref (a 0), .int v]) (QMi g (fun _ : Unit => wM g a f4 f2 f3 f4 f5 f6 f7 f8 f9 f10 f11 f12 f13 f20 f21 f22 f23 f24 f25) (fun r9 _ => r9 = v) (va_A (wM g a f1 f2 f3 f4 f5 f6 f7 f8 f9 f10 f11 f12 f13 f20 f21 f22 f23 f24 f25) sz)) 0 0 (va_A (wM g a f1 f2 f3 f4 f5 f6 f7 f8 f9 f10 f11 f12 f13 f20 f21 f22 f23 f24 f25) sz) := by
  refine me (g := g) (by decide) rfl ?_
  intro pq eq s mq below meth cq C hnm hB ls hl
  obtain ⟨hx, hb, hr, hml, hown, hts, hlocks, hK⟩ := C
  have hown : s.vm.findClass RX5 = some mq.cls := hown
  have hl : lv_has ls 3 [(0, .ref (a 0)), (1, .int v)] := hl
  obtain ⟨hsz, hP, hD0⟩ := hB
  subst hsz
  have hD := hD0.self (sz := s.heap.size)
  have hA : ∀ q : Nat, s.heap.size ≤ q → va_A (wM g a f1 f2 f3 f4 f5 f6 f7 f8 f9 f10 f11 f12 f13 f20 f21 f22 f23 f24 f25) s.heap.size q := fun q h => Or.inr h
  have hS : va_S (va_A (wM g a f1 f2 f3 f4 f5 f6 f7 f8 f9 f10 f11 f12 f13 f20 f21 f22 f23 f24 f25) s.heap.size) s.heap s.heap [] := va_S.rf
  refine lv_iconst (v := iI (0)) hx hb dX5_takesBack_0 (by decide) ?_
  refine lv_istore_n (lv' := [(2, .int (iI 0)), (0, .ref (a 0)), (1, .int v)]) hx hb dX5_takesBack_1 rfl hl (by decide) rfl (fun ls hl => ?_)
  have lp2 : ∀ (n2 : Nat) (k : Int), (0 ≤ k ∧ k ≤ 101) → (101 - k).toNat < n2 → ∀ ls : Array Slot, lv_has ls 3 [(2, .int (iI k)), (0, .ref (a 0)), (1, .int v)] → ∀ (H : Heap) (locs : List Loc), va_P g.1 vwCl (wM g a (cpT f4 f1 k) f2 f3 f4 f5 f6 f7 f8 f9 f10 f11 f12 f13 f20 f21 f22 f23 f24 f25) H → va_D (va_A (wM g a f1 f2 f3 f4 f5 f6 f7 f8 f9 f10 f11 f12 f13 f20 f21 f22 f23 f24 f25) s.heap.size) (wM g a (cpT f4 f1 k) f2 f3 f4 f5 f6 f7 f8 f9 f10 f11 f12 f13 f20 f21 f22 f23 f24 f25) → va_S (va_A (wM g a f1 f2 f3 f4 f5 f6 f7 f8 f9 f10 f11 f12 f13 f20 f21 f22 f23 f24 f25) s.heap.size) s.heap H locs → W pq l eq rm_X5_takesBack s mq [.ref (a 0), .int v].toArray below meth cq H locs 0 0 (MQ below (QMi g (fun _ : Unit => wM g a f4 f2 f3 f4 f5 f6 f7 f8 f9 f10 f11 f12 f13 f20 f21 f22 f23 f24 f25) (fun r9 _ => r9 = v) (va_A (wM g a f1 f2 f3 f4 f5 f6 f7 f8 f9 f10 f11 f12 f13 f20 f21 f22 f23 f24 f25) s.heap.size)) [.ref (a 0), .int v].toArray s 0 0 (va_A (wM g a f1 f2 f3 f4 f5 f6 f7 f8 f9 f10 f11 f12 f13 f20 f21 f22 f23 f24 f25) s.heap.size)) (F0 mq 2 ls []) := by
    intro n2
    induction n2 with
    | zero => intro k i2_1 hm; exact absurd hm (Nat.not_lt_zero _)
    | succ n2 ih2 =>
      intro k i2_1 hm2 ls hl H locs hP hD hS
      refine lv_iload_n hx hb dX5_takesBack_2 rfl (lv_at hl 0 rfl) ?_
      refine lv_bipush (v := iI (101)) hx hb dX5_takesBack_3 (by decide) ?_
      refine xi_c_ge (tgt := 26) hx hb ⟨by omega, by omega⟩ ⟨by decide, by decide⟩ dX5_takesBack_5 (by decide) (fun z1 => ?_) (fun z1 => ?_)
      · refine lv_iload_n hx hb dX5_takesBack_26 rfl (lv_at hl 2 rfl) ?_
        have hP := P_cong hP 1 (y := (101, .inl (ar f4))) rfl (ar_cong (fun j h0 h1 => cpT_in h0 (by omega)))
        have hD := va_D.set (e := .inl (g.2.1, (101, .inl (ar f4)))) hD (p := 1) rfl
        have hP : va_P g.1 vwCl (wM g a f4 f2 f3 f4 f5 f6 f7 f8 f9 f10 f11 f12 f13 f20 f21 f22 f23 f24 f25) H := hP
        have hD : va_D (va_A (wM g a f1 f2 f3 f4 f5 f6 f7 f8 f9 f10 f11 f12 f13 f20 f21 f22 f23 f24 f25) s.heap.size) (wM g a f4 f2 f3 f4 f5 f6 f7 f8 f9 f10 f11 f12 f13 f20 f21 f22 f23 f24 f25) := hD
        exact W.iret hx hb hr (fun t ht hW => ⟨⟨_, (), rfl, rfl, by rw [ht]; exact hP, hD⟩, hS.F ht⟩) hS.2.2 dX5_takesBack_27
      · refine lv_aload_n hx hb dX5_takesBack_8 rfl (lv_at hl 1 rfl) ?_
        refine xg_X5 hx hb hts hown hK hP 0 rfl 0 (by decide) fk_X5_7 (v := .ref (a 1)) rfl dX5_takesBack_9 ?_
        refine lv_iload_n hx hb dX5_takesBack_12 rfl (lv_at hl 0 rfl) ?_
        refine lv_aload_n hx hb dX5_takesBack_13 rfl (lv_at hl 1 rfl) ?_
        refine xg_X5 hx hb hts hown hK hP 0 rfl 3 (by decide) fk_X5_19 (v := .ref (a 4)) rfl dX5_takesBack_14 ?_
        refine lv_iload_n hx hb dX5_takesBack_17 rfl (lv_at hl 0 rfl) ?_
        refine xi_ald hx hb hK hP 4 (f := f4) rfl (i := k) ⟨by omega, by omega⟩ rfl dX5_takesBack_18 ?_
        refine xi_ast hx hb hK hP hD hS 1 (f := cpT f4 f1 k) rfl (i := k) (v := f4 k) ⟨by omega, by omega⟩ rfl dX5_takesBack_19 (fun H locs hP hD hS => ?_)
        have hP : va_P g.1 vwCl (wM g a (up (cpT f4 f1 k) k (f4 k)) f2 f3 f4 f5 f6 f7 f8 f9 f10 f11 f12 f13 f20 f21 f22 f23 f24 f25) H := hP
        have hD : va_D (va_A (wM g a f1 f2 f3 f4 f5 f6 f7 f8 f9 f10 f11 f12 f13 f20 f21 f22 f23 f24 f25) s.heap.size) (wM g a (up (cpT f4 f1 k) k (f4 k)) f2 f3 f4 f5 f6 f7 f8 f9 f10 f11 f12 f13 f20 f21 f22 f23 f24 f25) := hD
        refine xi_inc (lv' := [(2, .int (iI (k + 1))), (0, .ref (a 0)), (1, .int v)]) hx hb dX5_takesBack_20 hl (k := 0) rfl (by decide) rfl (fun ls hl => ?_)
        refine lv_goto (tgt := 2) hx hb dX5_takesBack_23 (by decide) ?_
        have hq2 : (up (cpT f4 f1 k) k (f4 k)) = (cpT f4 f1 (k + 1)) := cpT_S f4 f1 i2_1.1
        have hP := Eq.mp (congrArg (fun z9 => va_P g.1 vwCl (wM g a z9 f2 f3 f4 f5 f6 f7 f8 f9 f10 f11 f12 f13 f20 f21 f22 f23 f24 f25) H) hq2) hP
        have hD := Eq.mp (congrArg (fun z9 => va_D (va_A (wM g a f1 f2 f3 f4 f5 f6 f7 f8 f9 f10 f11 f12 f13 f20 f21 f22 f23 f24 f25) s.heap.size) (wM g a z9 f2 f3 f4 f5 f6 f7 f8 f9 f10 f11 f12 f13 f20 f21 f22 f23 f24 f25)) hq2) hD
        exact ih2 (k + 1) (by omega) (by omega) ls (lv_sub hl [0, 1, 2] rfl) H locs hP hD hS
  have hq3 : f1 = (cpT f4 f1 0) := cpT_0 f4 f1
  have hP := Eq.mp (congrArg (fun z9 => va_P g.1 vwCl (wM g a z9 f2 f3 f4 f5 f6 f7 f8 f9 f10 f11 f12 f13 f20 f21 f22 f23 f24 f25) s.heap) hq3) hP
  have hD := Eq.mp (congrArg (fun z9 => va_D (va_A (wM g a f1 f2 f3 f4 f5 f6 f7 f8 f9 f10 f11 f12 f13 f20 f21 f22 f23 f24 f25) s.heap.size) (wM g a z9 f2 f3 f4 f5 f6 f7 f8 f9 f10 f11 f12 f13 f20 f21 f22 f23 f24 f25)) hq3) hD
  exact lp2 (101 + 1) 0 (by omega) (by omega) ls (lv_sub hl [0, 1, 2] rfl) s.heap [] hP hD hS
abbrev rm_X5_becomes : Room := { frames := 0, cells := 0, slots := 0, locals := 0 }
set_option maxRecDepth 100000 in
set_option maxHeartbeats 4000000 in
theorem c_X5_becomes (l : Launch) (g : Gd) (a : Nat → Nat) (f1 : Int → Int) (f2 : Int → Int) (f3 : Int → Int) (f4 : Int → Int) (f5 : Int → Int) (f6 : Int → Int) (f7 : Int → Int) (f8 : Int → Int) (f9 : Int → Int) (f10 : Int → Int) (f11 : Int → Int) (f12 : Int → Int) (f13 : Int → Int) (f20 : Int) (f21 : Int) (f22 : Int) (f23 : Int) (f24 : Int) (f25 : Int) (w : Int) (v : Int) (sz : Nat) (h1 : 0 ≤ w ∧ w < 101) : Met l yX5_becomes (wsOf yX5_becomes cX5_becomes 4 (some .int)) rm_X5_becomes (PX g (wP g (wM g a f1 f2 f3 f4 f5 f6 f7 f8 f9 f10 f11 f12 f13 f20 f21 f22 f23 f24 f25) sz) [.ref (a 0), .int (iI w), .int (iI v)]) (QMi g (fun _ : Unit => wM g a (up f1 w v) f2 f3 f4 f5 f6 f7 f8 f9 f10 f11 f12 f13 f20 f21 f22 f23 f24 f25) (fun r9 _ => r9 = iI (f1 w)) (va_A (wM g a f1 f2 f3 f4 f5 f6 f7 f8 f9 f10 f11 f12 f13 f20 f21 f22 f23 f24 f25) sz)) 0 0 (va_A (wM g a f1 f2 f3 f4 f5 f6 f7 f8 f9 f10 f11 f12 f13 f20 f21 f22 f23 f24 f25) sz) := by
  refine me (g := g) (by decide) rfl ?_
  intro pq eq s mq below meth cq C hnm hB ls hl
  obtain ⟨hx, hb, hr, hml, hown, hts, hlocks, hK⟩ := C
  have hown : s.vm.findClass RX5 = some mq.cls := hown
  have hl : lv_has ls 4 [(0, .ref (a 0)), (1, .int (iI w)), (2, .int (iI v))] := hl
  obtain ⟨hsz, hP, hD0⟩ := hB
  subst hsz
  have hD := hD0.self (sz := s.heap.size)
  have hA : ∀ q : Nat, s.heap.size ≤ q → va_A (wM g a f1 f2 f3 f4 f5 f6 f7 f8 f9 f10 f11 f12 f13 f20 f21 f22 f23 f24 f25) s.heap.size q := fun q h => Or.inr h
  have hS : va_S (va_A (wM g a f1 f2 f3 f4 f5 f6 f7 f8 f9 f10 f11 f12 f13 f20 f21 f22 f23 f24 f25) s.heap.size) s.heap s.heap [] := va_S.rf
  refine lv_aload_n hx hb dX5_becomes_0 rfl (lv_at hl 0 rfl) ?_
  refine xg_X5 hx hb hts hown hK hP 0 rfl 0 (by decide) fk_X5_7 (v := .ref (a 1)) rfl dX5_becomes_1 ?_
  refine lv_iload_n hx hb dX5_becomes_4 rfl (lv_at hl 1 rfl) ?_
  refine xi_ald hx hb hK hP 1 (f := f1) rfl (i := w) ⟨by omega, by omega⟩ rfl dX5_becomes_5 ?_
  refine lv_istore_n (lv' := [(3, .int (iI (f1 w))), (0, .ref (a 0)), (1, .int (iI w)), (2, .int (iI v))]) hx hb dX5_becomes_6 rfl hl (by decide) rfl (fun ls hl => ?_)
  refine lv_aload_n hx hb dX5_becomes_7 rfl (lv_at hl 1 rfl) ?_
  refine xg_X5 hx hb hts hown hK hP 0 rfl 0 (by decide) fk_X5_7 (v := .ref (a 1)) rfl dX5_becomes_8 ?_
  refine lv_iload_n hx hb dX5_becomes_11 rfl (lv_at hl 2 rfl) ?_
  refine lv_iload_n hx hb dX5_becomes_12 rfl (lv_at hl 3 rfl) ?_
  refine xi_ast hx hb hK hP hD hS 1 (f := f1) rfl (i := w) (v := v) ⟨by omega, by omega⟩ rfl dX5_becomes_13 (fun H locs hP hD hS => ?_)
  have hP : va_P g.1 vwCl (wM g a (up f1 w v) f2 f3 f4 f5 f6 f7 f8 f9 f10 f11 f12 f13 f20 f21 f22 f23 f24 f25) H := hP
  have hD : va_D (va_A (wM g a f1 f2 f3 f4 f5 f6 f7 f8 f9 f10 f11 f12 f13 f20 f21 f22 f23 f24 f25) s.heap.size) (wM g a (up f1 w v) f2 f3 f4 f5 f6 f7 f8 f9 f10 f11 f12 f13 f20 f21 f22 f23 f24 f25) := hD
  refine lv_iload_n hx hb dX5_becomes_14 rfl (lv_at hl 0 rfl) ?_
  have hP : va_P g.1 vwCl (wM g a (up f1 w v) f2 f3 f4 f5 f6 f7 f8 f9 f10 f11 f12 f13 f20 f21 f22 f23 f24 f25) H := hP
  have hD : va_D (va_A (wM g a f1 f2 f3 f4 f5 f6 f7 f8 f9 f10 f11 f12 f13 f20 f21 f22 f23 f24 f25) s.heap.size) (wM g a (up f1 w v) f2 f3 f4 f5 f6 f7 f8 f9 f10 f11 f12 f13 f20 f21 f22 f23 f24 f25) := hD
  exact W.iret hx hb hr (fun t ht hW => ⟨⟨_, (), rfl, rfl, by rw [ht]; exact hP, hD⟩, hS.F ht⟩) hS.2.2 dX5_becomes_15
abbrev rm_X5_isRange : Room := { frames := 1, cells := 0, slots := 0, locals := 25 }
set_option maxRecDepth 100000 in
set_option maxHeartbeats 4000000 in
theorem c_X5_isRange (l : Launch) (g : Gd) (a : Nat → Nat) (f1 : Int → Int) (f2 : Int → Int) (f3 : Int → Int) (f4 : Int → Int) (f5 : Int → Int) (f6 : Int → Int) (f7 : Int → Int) (f8 : Int → Int) (f9 : Int → Int) (f10 : Int → Int) (f11 : Int → Int) (f12 : Int → Int) (f13 : Int → Int) (f20 : Int) (f21 : Int) (f22 : Int) (f23 : Int) (f24 : Int) (f25 : Int) (r : Int) (h1 : IR r) (h2 : 0 ≤ f1 1 ∧ f1 1 ≤ 8) : Met l yX5_isRange (wsOf yX5_isRange cX5_isRange 2 (some .boolean)) rm_X5_isRange (PX g (va_P g.1 vwCl (wM g a f1 f2 f3 f4 f5 f6 f7 f8 f9 f10 f11 f12 f13 f20 f21 f22 f23 f24 f25)) [.ref (a 0), .int (iI r)]) (vp_Si (fun r9 => r9 = iI (bI (0 ≤ r ∧ r ≤ f1 1 - 1)))) 0 0 (fun _ => False) := by
  refine me (g := g) (by decide) rfl ?_
  intro pq eq s mq below meth cq C hnm hB ls hl
  obtain ⟨hx, hb, hr, hml, hown, hts, hlocks, hK⟩ := C
  have hown : s.vm.findClass RX5 = some mq.cls := hown
  have hl : lv_has ls 2 [(0, .ref (a 0)), (1, .int (iI r))] := hl
  have hP : va_P g.1 vwCl (wM g a f1 f2 f3 f4 f5 f6 f7 f8 f9 f10 f11 f12 f13 f20 f21 f22 f23 f24 f25) s.heap := hB
  have q1 := h1.1
  have q2 := h1.2
  refine lv_iload_n hx hb dX5_isRange_0 rfl (lv_at hl 1 rfl) ?_
  refine xi_i2l hx hb ⟨by omega, by omega⟩ dX5_isRange_1 ?_
  refine lv_lconst (v := lI (0)) hx hb dX5_isRange_2 (by decide) ?_
  refine lv_aload_n hx hb dX5_isRange_3 rfl (lv_at hl 0 rfl) ?_
  refine xg_X5 hx hb hts hown hK hP 0 rfl 0 (by decide) fk_X5_7 (v := .ref (a 1)) rfl dX5_isRange_4 ?_
  refine lv_iconst (v := iI (1)) hx hb dX5_isRange_7 (by decide) ?_
  refine xi_ald hx hb hK hP 1 (f := f1) rfl (i := 1) ⟨by omega, by omega⟩ rfl dX5_isRange_8 ?_
  refine lv_iconst (v := iI (1)) hx hb dX5_isRange_9 (by decide) ?_
  refine xi_sub hx hb dX5_isRange_10 ?_
  refine xi_i2l hx hb ⟨by omega, by omega⟩ dX5_isRange_11 ?_
  refine xu_b (P := 0 ≤ r ∧ r ≤ (f1 1 - 1)) (rS (rest := []) hx hb hml hown hts hK hl (c_X5_in l g r 0 (f1 1 - 1) (show LR r from ⟨by omega, by omega⟩) (show LR 0 from ⟨by omega, by omega⟩) (show LR (f1 1 - 1) from ⟨by omega, by omega⟩)) lk_X5_53 trivial rfl rfl rfl (Rm.of rfl) rfl rfl dX5_isRange_12) (fun z1 => ?_) (fun z1 => ?_)
  · exact W.zret hx hb hr (by decide) (fun t ht hW => ⟨_, rfl, by rw [bI_t (by omega)], ht⟩) (fun q h => by cases h) dX5_isRange_15
  · exact W.zret hx hb hr (by decide) (fun t ht hW => ⟨_, rfl, by rw [bI_f (by omega)], ht⟩) (fun q h => by cases h) dX5_isRange_15
abbrev rm_X5_isVillage : Room := { frames := 1, cells := 0, slots := 0, locals := 25 }
set_option maxRecDepth 100000 in
set_option maxHeartbeats 4000000 in
theorem c_X5_isVillage (l : Launch) (g : Gd) (a : Nat → Nat) (f1 : Int → Int) (f2 : Int → Int) (f3 : Int → Int) (f4 : Int → Int) (f5 : Int → Int) (f6 : Int → Int) (f7 : Int → Int) (f8 : Int → Int) (f9 : Int → Int) (f10 : Int → Int) (f11 : Int → Int) (f12 : Int → Int) (f13 : Int → Int) (f20 : Int) (f21 : Int) (f22 : Int) (f23 : Int) (f24 : Int) (f25 : Int) (r : Int) (h1 : IR r) (h2 : 0 ≤ f1 2 ∧ f1 2 ≤ 6) : Met l yX5_isVillage (wsOf yX5_isVillage cX5_isVillage 2 (some .boolean)) rm_X5_isVillage (PX g (va_P g.1 vwCl (wM g a f1 f2 f3 f4 f5 f6 f7 f8 f9 f10 f11 f12 f13 f20 f21 f22 f23 f24 f25)) [.ref (a 0), .int (iI r)]) (vp_Si (fun r9 => r9 = iI (bI (0 ≤ r ∧ r ≤ f1 2 - 1)))) 0 0 (fun _ => False) := by
  refine me (g := g) (by decide) rfl ?_
  intro pq eq s mq below meth cq C hnm hB ls hl
  obtain ⟨hx, hb, hr, hml, hown, hts, hlocks, hK⟩ := C
  have hown : s.vm.findClass RX5 = some mq.cls := hown
  have hl : lv_has ls 2 [(0, .ref (a 0)), (1, .int (iI r))] := hl
  have hP : va_P g.1 vwCl (wM g a f1 f2 f3 f4 f5 f6 f7 f8 f9 f10 f11 f12 f13 f20 f21 f22 f23 f24 f25) s.heap := hB
  have q1 := h1.1
  have q2 := h1.2
  refine lv_iload_n hx hb dX5_isVillage_0 rfl (lv_at hl 1 rfl) ?_
  refine xi_i2l hx hb ⟨by omega, by omega⟩ dX5_isVillage_1 ?_
  refine lv_lconst (v := lI (0)) hx hb dX5_isVillage_2 (by decide) ?_
  refine lv_aload_n hx hb dX5_isVillage_3 rfl (lv_at hl 0 rfl) ?_
  refine xg_X5 hx hb hts hown hK hP 0 rfl 0 (by decide) fk_X5_7 (v := .ref (a 1)) rfl dX5_isVillage_4 ?_
  refine lv_iconst (v := iI (2)) hx hb dX5_isVillage_7 (by decide) ?_
  refine xi_ald hx hb hK hP 1 (f := f1) rfl (i := 2) ⟨by omega, by omega⟩ rfl dX5_isVillage_8 ?_
  refine lv_iconst (v := iI (1)) hx hb dX5_isVillage_9 (by decide) ?_
  refine xi_sub hx hb dX5_isVillage_10 ?_
  refine xi_i2l hx hb ⟨by omega, by omega⟩ dX5_isVillage_11 ?_
  refine xu_b (P := 0 ≤ r ∧ r ≤ (f1 2 - 1)) (rS (rest := []) hx hb hml hown hts hK hl (c_X5_in l g r 0 (f1 2 - 1) (show LR r from ⟨by omega, by omega⟩) (show LR 0 from ⟨by omega, by omega⟩) (show LR (f1 2 - 1) from ⟨by omega, by omega⟩)) lk_X5_53 trivial rfl rfl rfl (Rm.of rfl) rfl rfl dX5_isVillage_12) (fun z1 => ?_) (fun z1 => ?_)
  · exact W.zret hx hb hr (by decide) (fun t ht hW => ⟨_, rfl, by rw [bI_t (by omega)], ht⟩) (fun q h => by cases h) dX5_isVillage_15
  · exact W.zret hx hb hr (by decide) (fun t ht hW => ⟨_, rfl, by rw [bI_f (by omega)], ht⟩) (fun q h => by cases h) dX5_isVillage_15
abbrev rm_X5_spot : Room := { frames := 0, cells := 0, slots := 0, locals := 0 }
set_option maxRecDepth 100000 in
set_option maxHeartbeats 4000000 in
theorem c_X5_spot (l : Launch) (g : Gd) (r : Int) (w : Int)  : Met l yX5_spot (wsOf yX5_spot cX5_spot 2 (some .int)) rm_X5_spot (PX g (fun _ => True) [.int (iI r), .int (iI w)]) (vp_Si (fun r9 => r9 = iI (61 + 5 * r + w))) 0 0 (fun _ => False) := by
  refine me (g := g) (by decide) rfl ?_
  intro pq eq s mq below meth cq C hnm hB ls hl
  obtain ⟨hx, hb, hr, hml, hown, hts, hlocks, hK⟩ := C
  have hown : s.vm.findClass RX5 = some mq.cls := hown
  have hl : lv_has ls 2 [(0, .int (iI r)), (1, .int (iI w))] := hl
  refine lv_bipush (v := iI (61)) hx hb dX5_spot_0 (by decide) ?_
  refine lv_iconst (v := iI (5)) hx hb dX5_spot_2 (by decide) ?_
  refine lv_iload_n hx hb dX5_spot_3 rfl (lv_at hl 0 rfl) ?_
  refine xi_mul hx hb dX5_spot_4 ?_
  refine xi_add hx hb dX5_spot_5 ?_
  refine lv_iload_n hx hb dX5_spot_6 rfl (lv_at hl 1 rfl) ?_
  refine xi_add hx hb dX5_spot_7 ?_
  exact W.iret hx hb hr (fun t ht hW => ⟨_, rfl, congrArg iI (by omega), ht⟩) (fun q h => by cases h) dX5_spot_8
abbrev rm_X5_its : Room := { frames := 1, cells := 0, slots := 0, locals := 21 }
set_option maxRecDepth 100000 in
set_option maxHeartbeats 4000000 in
theorem c_X5_its (l : Launch) (g : Gd) (a : Nat → Nat) (f1 : Int → Int) (f2 : Int → Int) (f3 : Int → Int) (f4 : Int → Int) (f5 : Int → Int) (f6 : Int → Int) (f7 : Int → Int) (f8 : Int → Int) (f9 : Int → Int) (f10 : Int → Int) (f11 : Int → Int) (f12 : Int → Int) (f13 : Int → Int) (f20 : Int) (f21 : Int) (f22 : Int) (f23 : Int) (f24 : Int) (f25 : Int) (r : Int) (w : Int) (h1 : 0 ≤ 61 + 5 * r + w ∧ 61 + 5 * r + w < 101) : Met l yX5_its (wsOf yX5_its cX5_its 3 (some .int)) rm_X5_its (PX g (va_P g.1 vwCl (wM g a f1 f2 f3 f4 f5 f6 f7 f8 f9 f10 f11 f12 f13 f20 f21 f22 f23 f24 f25)) [.ref (a 0), .int (iI r), .int (iI w)]) (vp_Si (fun r9 => r9 = iI (f1 (61 + 5 * r + w)))) 0 0 (fun _ => False) := by
  refine me (g := g) (by decide) rfl ?_
  intro pq eq s mq below meth cq C hnm hB ls hl
  obtain ⟨hx, hb, hr, hml, hown, hts, hlocks, hK⟩ := C
  have hown : s.vm.findClass RX5 = some mq.cls := hown
  have hl : lv_has ls 3 [(0, .ref (a 0)), (1, .int (iI r)), (2, .int (iI w))] := hl
  have hP : va_P g.1 vwCl (wM g a f1 f2 f3 f4 f5 f6 f7 f8 f9 f10 f11 f12 f13 f20 f21 f22 f23 f24 f25) s.heap := hB
  refine lv_aload_n hx hb dX5_its_0 rfl (lv_at hl 0 rfl) ?_
  refine xg_X5 hx hb hts hown hK hP 0 rfl 0 (by decide) fk_X5_7 (v := .ref (a 1)) rfl dX5_its_1 ?_
  refine lv_iload_n hx hb dX5_its_4 rfl (lv_at hl 1 rfl) ?_
  refine lv_iload_n hx hb dX5_its_5 rfl (lv_at hl 2 rfl) ?_
  refine xu_i (x := iI (61 + 5 * r + w)) (rS (rest := [.ref (a 1)]) hx hb hml hown hts hK hl (c_X5_spot l g r w ) lk_X5_59 trivial rfl rfl rfl (Rm.of rfl) rfl rfl dX5_its_6) ?_
  refine xi_ald hx hb hK hP 1 (f := f1) rfl (i := 61 + 5 * r + w) ⟨by omega, by omega⟩ rfl dX5_its_9 ?_
  exact W.iret hx hb hr (fun t ht hW => ⟨_, rfl, rfl, ht⟩) (fun q h => by cases h) dX5_its_10
abbrev rm_X5_behind : Room := { frames := 0, cells := 0, slots := 0, locals := 0 }
set_option maxRecDepth 100000 in
set_option maxHeartbeats 4000000 in
theorem c_X5_behind (l : Launch) (g : Gd) (c : Int) (h1 : IR c) : Met l yX5_behind (wsOf yX5_behind cX5_behind 1 (some .int)) rm_X5_behind (PX g (fun _ => True) [.int (iI c)]) (vp_Si (fun r9 => r9 = iI (bh c))) 0 0 (fun _ => False) := by
  refine me (g := g) (by decide) rfl ?_
  intro pq eq s mq below meth cq C hnm hB ls hl
  obtain ⟨hx, hb, hr, hml, hown, hts, hlocks, hK⟩ := C
  have hown : s.vm.findClass RX5 = some mq.cls := hown
  have hl : lv_has ls 1 [(0, .int (iI c))] := hl
  have q1 := h1.1
  have q2 := h1.2
  refine lv_iload_n hx hb dX5_behind_0 rfl (lv_at hl 0 rfl) ?_
  refine lv_bipush (v := iI (23)) hx hb dX5_behind_1 (by decide) ?_
  refine xi_c_ne (tgt := 10) hx hb ⟨by omega, by omega⟩ ⟨by decide, by decide⟩ dX5_behind_3 (by decide) (fun z1 => ?_) (fun z1 => ?_)
  · refine lv_iload_n hx hb dX5_behind_10 rfl (lv_at hl 0 rfl) ?_
    refine lv_iconst (v := iI (1)) hx hb dX5_behind_11 (by decide) ?_
    refine xi_add hx hb dX5_behind_12 ?_
    exact W.iret hx hb hr (fun t ht hW => ⟨_, rfl, congrArg iI (by unfold bh; split <;> omega), ht⟩) (fun q h => by cases h) dX5_behind_13
  · refine lv_iconst (v := iI (0)) hx hb dX5_behind_6 (by decide) ?_
    refine lv_goto (tgt := 13) hx hb dX5_behind_7 (by decide) ?_
    exact W.iret hx hb hr (fun t ht hW => ⟨_, rfl, congrArg iI (by unfold bh; split <;> omega), ht⟩) (fun q h => by cases h) dX5_behind_13
abbrev rm_X5_sumOf : Room := { frames := 2, cells := 0, slots := 0, locals := 43 }
set_option maxRecDepth 100000 in
set_option maxHeartbeats 4000000 in
theorem c_X5_sumOf (l : Launch) (g : Gd) (a : Nat → Nat) (f1 : Int → Int) (f2 : Int → Int) (f3 : Int → Int) (f4 : Int → Int) (f5 : Int → Int) (f6 : Int → Int) (f7 : Int → Int) (f8 : Int → Int) (f9 : Int → Int) (f10 : Int → Int) (f11 : Int → Int) (f12 : Int → Int) (f13 : Int → Int) (f20 : Int) (f21 : Int) (f22 : Int) (f23 : Int) (f24 : Int) (f25 : Int) (w : Int) (h1 : 0 ≤ w ∧ w ≤ 4) (h2 : 0 ≤ f1 1 ∧ f1 1 ≤ 8) : Met l yX5_sumOf (wsOf yX5_sumOf cX5_sumOf 4 (some .int)) rm_X5_sumOf (PX g (va_P g.1 vwCl (wM g a f1 f2 f3 f4 f5 f6 f7 f8 f9 f10 f11 f12 f13 f20 f21 f22 f23 f24 f25)) [.ref (a 0), .int (iI w)]) (vp_Si (fun r9 => r9 = iI (sumT f1 w (f1 1).toNat))) 0 0 (fun _ => False) := by
  refine me (g := g) (by decide) rfl ?_
  intro pq eq s mq below meth cq C hnm hB ls hl
  obtain ⟨hx, hb, hr, hml, hown, hts, hlocks, hK⟩ := C
  have hown : s.vm.findClass RX5 = some mq.cls := hown
  have hl : lv_has ls 4 [(0, .ref (a 0)), (1, .int (iI w))] := hl
  have hP : va_P g.1 vwCl (wM g a f1 f2 f3 f4 f5 f6 f7 f8 f9 f10 f11 f12 f13 f20 f21 f22 f23 f24 f25) s.heap := hB
  refine lv_iconst (v := iI (0)) hx hb dX5_sumOf_0 (by decide) ?_
  refine lv_istore_n (lv' := [(2, .int (iI 0)), (0, .ref (a 0)), (1, .int (iI w))]) hx hb dX5_sumOf_1 rfl hl (by decide) rfl (fun ls hl => ?_)
  refine lv_iconst (v := iI (0)) hx hb dX5_sumOf_2 (by decide) ?_
  refine lv_istore_n (lv' := [(3, .int (iI 0)), (2, .int (iI 0)), (0, .ref (a 0)), (1, .int (iI w))]) hx hb dX5_sumOf_3 rfl hl (by decide) rfl (fun ls hl => ?_)
  have lp4 : ∀ (n4 : Nat) (k : Nat), ((k : Int) ≤ f1 1) → 8 - k < n4 → ∀ ls : Array Slot, lv_has ls 4 [(3, .int (iI (k : Int))), (2, .int (iI (sumT f1 w k))), (0, .ref (a 0)), (1, .int (iI w))] → W pq l eq rm_X5_sumOf s mq [.ref (a 0), .int (iI w)].toArray below meth cq s.heap [] 0 0 (MQ below (vp_Si (fun r9 => r9 = iI (sumT f1 w (f1 1).toNat))) [.ref (a 0), .int (iI w)].toArray s 0 0 (fun _ => False)) (F0 mq 4 ls []) := by
    intro n4
    induction n4 with
    | zero => intro k i4_1 hm; exact absurd hm (Nat.not_lt_zero _)
    | succ n4 ih4 =>
      intro k i4_1 hm4 ls hl
      refine lv_iload_n hx hb dX5_sumOf_4 rfl (lv_at hl 0 rfl) ?_
      refine lv_aload_n hx hb dX5_sumOf_5 rfl (lv_at hl 2 rfl) ?_
      refine xg_X5 hx hb hts hown hK hP 0 rfl 0 (by decide) fk_X5_7 (v := .ref (a 1)) rfl dX5_sumOf_6 ?_
      refine lv_iconst (v := iI (1)) hx hb dX5_sumOf_9 (by decide) ?_
      refine xi_ald hx hb hK hP 1 (f := f1) rfl (i := 1) ⟨by omega, by omega⟩ rfl dX5_sumOf_10 ?_
      refine xi_c_ge (tgt := 29) hx hb ⟨by omega, by omega⟩ ⟨by omega, by omega⟩ dX5_sumOf_11 (by decide) (fun z1 => ?_) (fun z1 => ?_)
      · refine lv_iload_n hx hb dX5_sumOf_29 rfl (lv_at hl 1 rfl) ?_
        exact W.iret hx hb hr (fun t ht hW => ⟨_, rfl, by rw [show (f1 1).toNat = k by omega], ht⟩) (fun q h => by cases h) dX5_sumOf_30
      · refine lv_iload_n hx hb dX5_sumOf_14 rfl (lv_at hl 1 rfl) ?_
        refine lv_aload_n hx hb dX5_sumOf_15 rfl (lv_at hl 2 rfl) ?_
        refine lv_iload_n hx hb dX5_sumOf_16 rfl (lv_at hl 0 rfl) ?_
        refine lv_iload_n hx hb dX5_sumOf_17 rfl (lv_at hl 3 rfl) ?_
        refine xu_i (x := iI (f1 (61 + 5 * (k : Int) + w))) (rV (rest := [.int (iI (sumT f1 w k))]) hx hb hml hown hts hK hl (c_X5_its l g a f1 f2 f3 f4 f5 f6 f7 f8 f9 f10 f11 f12 f13 f20 f21 f22 f23 f24 f25 (k : Int) w (show 0 ≤ 61 + 5 * (k : Int) + w ∧ 61 + 5 * (k : Int) + w < 101 from by omega)) lk_X5_63 hP (va_recv hK.1 hP (ci := 5) (q0 := 0) rfl rfl) rfl rfl rfl (Rm.of rfl) rfl rfl dX5_sumOf_18) ?_
        refine xi_add hx hb dX5_sumOf_21 ?_
        refine lv_istore_n (lv' := [(2, .int (iI (sumT f1 w k + (f1 (61 + 5 * (k : Int) + w))))), (3, .int (iI (k : Int))), (0, .ref (a 0)), (1, .int (iI w))]) hx hb dX5_sumOf_22 rfl hl (by decide) rfl (fun ls hl => ?_)
        refine xi_inc (lv' := [(3, .int (iI ((k : Int) + 1))), (2, .int (iI (sumT f1 w k + (f1 (61 + 5 * (k : Int) + w))))), (0, .ref (a 0)), (1, .int (iI w))]) hx hb dX5_sumOf_23 hl (k := 1) rfl (by decide) rfl (fun ls hl => ?_)
        refine lv_goto (tgt := 4) hx hb dX5_sumOf_26 (by decide) ?_
        have hq3 : ((k : Int) + 1) = ((k + 1) : Int) := by omega
        have hq4 : (sumT f1 w k + (f1 (61 + 5 * (k : Int) + w))) = (sumT f1 w (k + 1)) := rfl
        have hl : lv_has ls 4 [(3, .int (iI ((k : Int) + 1))), (2, .int (iI (sumT f1 w k + (f1 (61 + 5 * (k : Int) + w))))), (0, .ref (a 0)), (1, .int (iI w))] := lv_sub hl [0, 1, 2, 3] rfl
        have hl := Eq.mp (congrArg (fun z9 => lv_has ls 4 [(3, .int (iI z9)), (2, .int (iI (sumT f1 w k + (f1 (61 + 5 * (k : Int) + w))))), (0, .ref (a 0)), (1, .int (iI w))]) hq3) hl
        have hl := Eq.mp (congrArg (fun z9 => lv_has ls 4 [(3, .int (iI ((k + 1) : Int))), (2, .int (iI z9)), (0, .ref (a 0)), (1, .int (iI w))]) hq4) hl
        exact ih4 (k + 1) (by omega) (by omega) ls hl
  have hq5 : 0 = (0 : Int) := rfl
  have hq6 : 0 = (sumT f1 w 0) := rfl
  have hl : lv_has ls 4 [(3, .int (iI 0)), (2, .int (iI 0)), (0, .ref (a 0)), (1, .int (iI w))] := lv_sub hl [0, 1, 2, 3] rfl
  have hl := Eq.mp (congrArg (fun z9 => lv_has ls 4 [(3, .int (iI z9)), (2, .int (iI 0)), (0, .ref (a 0)), (1, .int (iI w))]) hq5) hl
  have hl := Eq.mp (congrArg (fun z9 => lv_has ls 4 [(3, .int (iI (0 : Int))), (2, .int (iI z9)), (0, .ref (a 0)), (1, .int (iI w))]) hq6) hl
  exact lp4 (8 + 1) 0 (by omega) (by omega) ls hl
