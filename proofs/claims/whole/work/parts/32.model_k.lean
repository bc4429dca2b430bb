abbrev rm_X5_byteAt : Room := { frames := 0, cells := 0, slots := 0, locals := 0 }
set_option maxRecDepth 100000 in
set_option maxHeartbeats 4000000 in
theorem c_X5_byteAt (l : Launch) (g : Gd) (a : Nat → Nat) (f1 : Int → Int) (f2 : Int → Int) (f3 : Int → Int) (f4 : Int → Int) (f5 : Int → Int) (f6 : Int → Int) (f7 : Int → Int) (f8 : Int → Int) (f9 : Int → Int) (f10 : Int → Int) (f11 : Int → Int) (f12 : Int → Int) (f13 : Int → Int) (f20 : Int) (f21 : Int) (f22 : Int) (f23 : Int) (f24 : Int) (f25 : Int) (k : Int) (h1 : 0 ≤ k ∧ k ≤ 121) (h2 : 0 ≤ f21 ∧ f21 ≤ 120) : Met l yX5_byteAt (wsOf yX5_byteAt cX5_byteAt 2 (some .int)) rm_X5_byteAt (PX g (va_P g.1 vwCl (wM g a f1 f2 f3 f4 f5 f6 f7 f8 f9 f10 f11 f12 f13 f20 f21 f22 f23 f24 f25)) [.ref (a 0), .int (iI k)]) (vp_Si (fun r9 => r9 = iI (bAt f9 f21 k))) 0 0 (fun _ => False) := by
  refine me (g := g) (by decide) rfl ?_
  intro pq eq s mq below meth cq C hnm hB ls hl
  obtain ⟨hx, hb, hr, hml, hown, hts, hlocks, hK⟩ := C
  have hown : s.vm.findClass RX5 = some mq.cls := hown
  have hl : lv_has ls 2 [(0, .ref (a 0)), (1, .int (iI k))] := hl
  have hP : va_P g.1 vwCl (wM g a f1 f2 f3 f4 f5 f6 f7 f8 f9 f10 f11 f12 f13 f20 f21 f22 f23 f24 f25) s.heap := hB
  refine lv_iload_n hx hb dX5_byteAt_0 rfl (lv_at hl 1 rfl) ?_
  refine lv_aload_n hx hb dX5_byteAt_1 rfl (lv_at hl 0 rfl) ?_
  refine xg_X5 hx hb hts hown hK hP 0 rfl 10 (by decide) fk_X5_206 (v := .int (iI f21)) rfl dX5_byteAt_2 ?_
  refine xi_c_ge (tgt := 17) hx hb ⟨by omega, by omega⟩ ⟨by omega, by omega⟩ dX5_byteAt_5 (by decide) (fun z1 => ?_) (fun z1 => ?_)
  · refine lv_iconst (v := iI (-1)) hx hb dX5_byteAt_17 (by decide) ?_
    exact W.iret hx hb hr (fun t ht hW => ⟨_, rfl, congrArg iI (by unfold bAt; (repeat (first | rw [if_pos (by omega)] | rw [if_neg (by omega)]))), ht⟩) (fun q h => by cases h) dX5_byteAt_18
  · refine lv_aload_n hx hb dX5_byteAt_8 rfl (lv_at hl 0 rfl) ?_
    refine xg_X5 hx hb hts hown hK hP 0 rfl 9 (by decide) fk_X5_34 (v := .ref (a 9)) rfl dX5_byteAt_9 ?_
    refine lv_iload_n hx hb dX5_byteAt_12 rfl (lv_at hl 1 rfl) ?_
    refine xi_ald hx hb hK hP 9 (f := f9) rfl (i := k) ⟨by omega, by omega⟩ rfl dX5_byteAt_13 ?_
    refine lv_goto (tgt := 18) hx hb dX5_byteAt_14 (by decide) ?_
    exact W.iret hx hb hr (fun t ht hW => ⟨_, rfl, congrArg iI (by unfold bAt; (repeat (first | rw [if_pos (by omega)] | rw [if_neg (by omega)]))), ht⟩) (fun q h => by cases h) dX5_byteAt_18
abbrev rm_X5_token : Room := { frames := 2, cells := 0, slots := 0, locals := 45 }
set_option maxRecDepth 100000 in
set_option maxHeartbeats 4000000 in
theorem c_X5_token (l : Launch) (g : Gd) (a : Nat → Nat) (f1 : Int → Int) (f2 : Int → Int) (f3 : Int → Int) (f4 : Int → Int) (f5 : Int → Int) (f6 : Int → Int) (f7 : Int → Int) (f8 : Int → Int) (f9 : Int → Int) (f10 : Int → Int) (f11 : Int → Int) (f12 : Int → Int) (f13 : Int → Int) (f20 : Int) (f21 : Int) (f22 : Int) (f23 : Int) (f24 : Int) (f25 : Int) (sz : Nat) (h1 : ∀ j, 0 ≤ f9 j ∧ f9 j ≤ 255) (h2 : 0 ≤ f21 ∧ f21 ≤ 120) (h3 : 0 ≤ f23 ∧ f23 ≤ f21) : Met l yX5_token (wsOf yX5_token cX5_token 3 none) rm_X5_token (PX g (wP g (wM g a f1 f2 f3 f4 f5 f6 f7 f8 f9 f10 f11 f12 f13 f20 f21 f22 f23 f24 f25) sz) [.ref (a 0)]) (QMv g (fun _ : Unit => wM g a f1 f2 f3 f4 f5 f6 f7 f8 f9 f10 f11 f12 f13 f20 f21 (tkF f9 f21 f23) (tkE f9 f21 (tkF f9 f21 f23)) f24 f25) (fun _ => True) (va_A (wM g a f1 f2 f3 f4 f5 f6 f7 f8 f9 f10 f11 f12 f13 f20 f21 f22 f23 f24 f25) sz)) 0 0 (va_A (wM g a f1 f2 f3 f4 f5 f6 f7 f8 f9 f10 f11 f12 f13 f20 f21 f22 f23 f24 f25) sz) := by
  refine me (g := g) (by decide) rfl ?_
  intro pq eq s mq below meth cq C hnm hB ls hl
  obtain ⟨hx, hb, hr, hml, hown, hts, hlocks, hK⟩ := C
  have hown : s.vm.findClass RX5 = some mq.cls := hown
  have hl : lv_has ls 3 [(0, .ref (a 0))] := hl
  obtain ⟨hsz, hP, hD0⟩ := hB
  subst hsz
  have hD := hD0.self (sz := s.heap.size)
  have hA : ∀ q : Nat, s.heap.size ≤ q → va_A (wM g a f1 f2 f3 f4 f5 f6 f7 f8 f9 f10 f11 f12 f13 f20 f21 f22 f23 f24 f25) s.heap.size q := fun q h => Or.inr h
  have hS : va_S (va_A (wM g a f1 f2 f3 f4 f5 f6 f7 f8 f9 f10 f11 f12 f13 f20 f21 f22 f23 f24 f25) s.heap.size) s.heap s.heap [] := va_S.rf
  have hbb := fun x => bAt_b (t := f21) (k := x) h1
  refine lv_aload_n hx hb dX5_token_0 rfl (lv_at hl 0 rfl) ?_
  refine lv_aload_n hx hb dX5_token_1 rfl (lv_at hl 0 rfl) ?_
  refine xg_X5 hx hb hts hown hK hP 0 rfl 12 (by decide) fk_X5_218 (v := .int (iI f23)) rfl dX5_token_2 ?_
  refine xp_X5 hx hb hts hown hK hP hD hS 0 rfl 11 (by decide) fk_X5_221 rfl (v := .int (iI f23)) rfl rfl (Nat.le_of_ble_eq_true rfl) dX5_token_5 (fun H locs hP hD hS => ?_)
  have hP : va_P g.1 vwCl (wM g a f1 f2 f3 f4 f5 f6 f7 f8 f9 f10 f11 f12 f13 f20 f21 f23 f23 f24 f25) H := hP
  have hD : va_D (va_A (wM g a f1 f2 f3 f4 f5 f6 f7 f8 f9 f10 f11 f12 f13 f20 f21 f22 f23 f24 f25) s.heap.size) (wM g a f1 f2 f3 f4 f5 f6 f7 f8 f9 f10 f11 f12 f13 f20 f21 f23 f23 f24 f25) := hD
  have lp8 : ∀ (n8 : Nat) (k : Int) (m : Nat), (0 ≤ k ∧ k ≤ f21) → (skT f9 f21 m k = (tkF f9 f21 f23)) → (f21 - k < m) → (f21 - k).toNat < n8 → ∀ ls : Array Slot, lv_has ls 3 [(0, .ref (a 0))] → ∀ (H : Heap) (locs : List Loc), va_P g.1 vwCl (wM g a f1 f2 f3 f4 f5 f6 f7 f8 f9 f10 f11 f12 f13 f20 f21 k f23 f24 f25) H → va_D (va_A (wM g a f1 f2 f3 f4 f5 f6 f7 f8 f9 f10 f11 f12 f13 f20 f21 f22 f23 f24 f25) s.heap.size) (wM g a f1 f2 f3 f4 f5 f6 f7 f8 f9 f10 f11 f12 f13 f20 f21 k f23 f24 f25) → va_S (va_A (wM g a f1 f2 f3 f4 f5 f6 f7 f8 f9 f10 f11 f12 f13 f20 f21 f22 f23 f24 f25) s.heap.size) s.heap H locs → W pq l eq rm_X5_token s mq [.ref (a 0)].toArray below meth cq H locs 0 0 (MQ below (QMv g (fun _ : Unit => wM g a f1 f2 f3 f4 f5 f6 f7 f8 f9 f10 f11 f12 f13 f20 f21 (tkF f9 f21 f23) (tkE f9 f21 (tkF f9 f21 f23)) f24 f25) (fun _ => True) (va_A (wM g a f1 f2 f3 f4 f5 f6 f7 f8 f9 f10 f11 f12 f13 f20 f21 f22 f23 f24 f25) s.heap.size)) [.ref (a 0)].toArray s 0 0 (va_A (wM g a f1 f2 f3 f4 f5 f6 f7 f8 f9 f10 f11 f12 f13 f20 f21 f22 f23 f24 f25) s.heap.size)) (F0 mq 8 ls []) := by
    intro n8
    induction n8 with
    | zero => intro k m i8_1 i8_2 i8_3 hm; exact absurd hm (Nat.not_lt_zero _)
    | succ n8 ih8 =>
      intro k m i8_1 i8_2 i8_3 hm8 ls hl H locs hP hD hS
      have hb9 := hbb k
      have hd9 := bAt_d f9 f21 k
      refine lv_aload_n hx hb dX5_token_8 rfl (lv_at hl 0 rfl) ?_
      refine lv_aload_n hx hb dX5_token_9 rfl (lv_at hl 0 rfl) ?_
      refine xg_X5 hx hb hts hown hK hP 0 rfl 11 (by decide) fk_X5_221 (v := .int (iI k)) rfl dX5_token_10 ?_
      refine xu_i (x := iI (bAt f9 f21 k)) (rV (rest := []) hx hb hml hown hts hK hl (c_X5_byteAt l g a f1 f2 f3 f4 f5 f6 f7 f8 f9 f10 f11 f12 f13 f20 f21 k f23 f24 f25 k (show 0 ≤ k ∧ k ≤ 121 from by omega) (show 0 ≤ f21 ∧ f21 ≤ 120 from by omega)) lk_X5_224 hP (va_recv hK.1 hP (ci := 5) (q0 := 0) rfl rfl) rfl rfl rfl (Rm.of rfl) rfl rfl dX5_token_13) ?_
      refine lv_bipush (v := iI (32)) hx hb dX5_token_16 (by decide) ?_
      refine xi_c_ne (tgt := 34) hx hb ⟨by omega, by omega⟩ ⟨by decide, by decide⟩ dX5_token_18 (by decide) (fun z2 => ?_) (fun z2 => ?_)
      · have hk : k = (tkF f9 f21 f23) := by rw [← i8_2]; exact (skT_stop (by omega) m).symm
        have hb7 := hbb k
        have hd7 := bAt_d f9 f21 k
        refine lv_aload_n hx hb dX5_token_34 rfl (lv_at hl 0 rfl) ?_
        refine lv_aload_n hx hb dX5_token_35 rfl (lv_at hl 0 rfl) ?_
        refine xg_X5 hx hb hts hown hK hP 0 rfl 11 (by decide) fk_X5_221 (v := .int (iI k)) rfl dX5_token_36 ?_
        refine xu_i (x := iI (bAt f9 f21 k)) (rV (rest := []) hx hb hml hown hts hK hl (c_X5_byteAt l g a f1 f2 f3 f4 f5 f6 f7 f8 f9 f10 f11 f12 f13 f20 f21 k f23 f24 f25 k (show 0 ≤ k ∧ k ≤ 121 from by omega) (show 0 ≤ f21 ∧ f21 ≤ 120 from by omega)) lk_X5_224 hP (va_recv hK.1 hP (ci := 5) (q0 := 0) rfl rfl) rfl rfl rfl (Rm.of rfl) rfl rfl dX5_token_39) ?_
        refine xu_b (P := 97 ≤ (bAt f9 f21 k) ∧ (bAt f9 f21 k) ≤ 122) (rS (rest := []) hx hb hml hown hts hK hl (c_X5_isLetter l g (bAt f9 f21 k) (show IR (bAt f9 f21 k) from ⟨by omega, by omega⟩)) lk_X5_227 trivial rfl rfl rfl (Rm.of rfl) rfl rfl dX5_token_42) (fun z4 => ?_) (fun z4 => ?_)
        · refine lv_istore_n (lv' := [(1, .int (iI 1)), (0, .ref (a 0))]) hx hb dX5_token_45 rfl hl (by decide) rfl (fun ls hl => ?_)
          refine lv_aload_n hx hb dX5_token_46 rfl (lv_at hl 1 rfl) ?_
          refine lv_aload_n hx hb dX5_token_47 rfl (lv_at hl 1 rfl) ?_
          refine xg_X5 hx hb hts hown hK hP 0 rfl 11 (by decide) fk_X5_221 (v := .int (iI k)) rfl dX5_token_48 ?_
          refine xu_i (x := iI (bAt f9 f21 k)) (rV (rest := []) hx hb hml hown hts hK hl (c_X5_byteAt l g a f1 f2 f3 f4 f5 f6 f7 f8 f9 f10 f11 f12 f13 f20 f21 k f23 f24 f25 k (show 0 ≤ k ∧ k ≤ 121 from by omega) (show 0 ≤ f21 ∧ f21 ≤ 120 from by omega)) lk_X5_224 hP (va_recv hK.1 hP (ci := 5) (q0 := 0) rfl rfl) rfl rfl rfl (Rm.of rfl) rfl rfl dX5_token_51) ?_
          refine xu_b (P := 48 ≤ (bAt f9 f21 k) ∧ (bAt f9 f21 k) ≤ 57) (rS (rest := []) hx hb hml hown hts hK hl (c_X5_isDigit l g (bAt f9 f21 k) (show IR (bAt f9 f21 k) from ⟨by omega, by omega⟩)) lk_X5_230 trivial rfl rfl rfl (Rm.of rfl) rfl rfl dX5_token_54) (fun z6 => ?_) (fun z6 => ?_)
          · refine lv_istore_n (lv' := [(2, .int (iI 1)), (1, .int (iI 1)), (0, .ref (a 0))]) hx hb dX5_token_57 rfl hl (by decide) rfl (fun ls hl => ?_)
            refine lv_aload_n hx hb dX5_token_58 rfl (lv_at hl 2 rfl) ?_
            refine lv_aload_n hx hb dX5_token_59 rfl (lv_at hl 2 rfl) ?_
            refine xg_X5 hx hb hts hown hK hP 0 rfl 11 (by decide) fk_X5_221 (v := .int (iI k)) rfl dX5_token_60 ?_
            refine lv_aload_n hx hb dX5_token_63 rfl (lv_at hl 2 rfl) ?_
            refine xg_X5 hx hb hts hown hK hP 0 rfl 10 (by decide) fk_X5_206 (v := .int (iI f21)) rfl dX5_token_64 ?_
            refine xi_c_ge (tgt := 79) hx hb ⟨by omega, by omega⟩ ⟨by omega, by omega⟩ dX5_token_67 (by decide) (fun z7 => ?_) (fun z7 => ?_)
            · refine lv_aload_n hx hb dX5_token_79 rfl (lv_at hl 2 rfl) ?_
              refine xg_X5 hx hb hts hown hK hP 0 rfl 11 (by decide) fk_X5_221 (v := .int (iI k)) rfl dX5_token_80 ?_
              refine xp_X5 hx hb hts hown hK hP hD hS 0 rfl 12 (by decide) fk_X5_218 rfl (v := .int (iI k)) rfl rfl (Nat.le_of_ble_eq_true rfl) dX5_token_83 (fun H locs hP hD hS => ?_)
              have hP : va_P g.1 vwCl (wM g a f1 f2 f3 f4 f5 f6 f7 f8 f9 f10 f11 f12 f13 f20 f21 k k f24 f25) H := hP
              have hD : va_D (va_A (wM g a f1 f2 f3 f4 f5 f6 f7 f8 f9 f10 f11 f12 f13 f20 f21 f22 f23 f24 f25) s.heap.size) (wM g a f1 f2 f3 f4 f5 f6 f7 f8 f9 f10 f11 f12 f13 f20 f21 k k f24 f25) := hD
              have lp86 : ∀ (n86 : Nat) (j : Int) (n : Nat), (0 ≤ j ∧ j ≤ f21) → (rnW f9 f21 1 1 n j = tkE f9 f21 k) → (f21 - j < n) → (f21 - j).toNat < n86 → ∀ ls : Array Slot, lv_has ls 3 [(2, .int (iI 1)), (1, .int (iI 1)), (0, .ref (a 0))] → ∀ (H : Heap) (locs : List Loc), va_P g.1 vwCl (wM g a f1 f2 f3 f4 f5 f6 f7 f8 f9 f10 f11 f12 f13 f20 f21 k j f24 f25) H → va_D (va_A (wM g a f1 f2 f3 f4 f5 f6 f7 f8 f9 f10 f11 f12 f13 f20 f21 f22 f23 f24 f25) s.heap.size) (wM g a f1 f2 f3 f4 f5 f6 f7 f8 f9 f10 f11 f12 f13 f20 f21 k j f24 f25) → va_S (va_A (wM g a f1 f2 f3 f4 f5 f6 f7 f8 f9 f10 f11 f12 f13 f20 f21 f22 f23 f24 f25) s.heap.size) s.heap H locs → W pq l eq rm_X5_token s mq [.ref (a 0)].toArray below meth cq H locs 0 0 (MQ below (QMv g (fun _ : Unit => wM g a f1 f2 f3 f4 f5 f6 f7 f8 f9 f10 f11 f12 f13 f20 f21 (tkF f9 f21 f23) (tkE f9 f21 (tkF f9 f21 f23)) f24 f25) (fun _ => True) (va_A (wM g a f1 f2 f3 f4 f5 f6 f7 f8 f9 f10 f11 f12 f13 f20 f21 f22 f23 f24 f25) s.heap.size)) [.ref (a 0)].toArray s 0 0 (va_A (wM g a f1 f2 f3 f4 f5 f6 f7 f8 f9 f10 f11 f12 f13 f20 f21 f22 f23 f24 f25) s.heap.size)) (F0 mq 86 ls []) := by
                intro n86
                induction n86 with
                | zero => intro j n i86_1 i86_2 i86_3 hm; exact absurd hm (Nat.not_lt_zero _)
                | succ n86 ih86 =>
                  intro j n i86_1 i86_2 i86_3 hm86 ls hl H locs hP hD hS
                  have hb8 := hbb j
                  have hd8 := bAt_d f9 f21 j
                  refine lv_iload_n hx hb dX5_token_86 rfl (lv_at hl 1 rfl) ?_
                  refine xi_zf_eq hx hb ⟨by decide, by decide⟩ (by decide) dX5_token_87 ⟨104, by decide⟩ ?_
                  refine lv_aload_n hx hb dX5_token_90 rfl (lv_at hl 2 rfl) ?_
                  refine lv_aload_n hx hb dX5_token_91 rfl (lv_at hl 2 rfl) ?_
                  refine xg_X5 hx hb hts hown hK hP 0 rfl 12 (by decide) fk_X5_218 (v := .int (iI j)) rfl dX5_token_92 ?_
                  refine xu_i (x := iI (bAt f9 f21 j)) (rV (rest := []) hx hb hml hown hts hK hl (c_X5_byteAt l g a f1 f2 f3 f4 f5 f6 f7 f8 f9 f10 f11 f12 f13 f20 f21 k j f24 f25 j (show 0 ≤ j ∧ j ≤ 121 from by omega) (show 0 ≤ f21 ∧ f21 ≤ 120 from by omega)) lk_X5_224 hP (va_recv hK.1 hP (ci := 5) (q0 := 0) rfl rfl) rfl rfl rfl (Rm.of rfl) rfl rfl dX5_token_95) ?_
                  refine xu_b (P := 97 ≤ (bAt f9 f21 j) ∧ (bAt f9 f21 j) ≤ 122) (rS (rest := []) hx hb hml hown hts hK hl (c_X5_isLetter l g (bAt f9 f21 j) (show IR (bAt f9 f21 j) from ⟨by omega, by omega⟩)) lk_X5_227 trivial rfl rfl rfl (Rm.of rfl) rfl rfl dX5_token_98) (fun z9 => ?_) (fun z9 => ?_)
                  · refine xi_zt_ne (tgt := 122) hx hb ⟨by decide, by decide⟩ (by decide) dX5_token_101 (by decide) ?_
                    refine lv_aload_n hx hb dX5_token_122 rfl (lv_at hl 2 rfl) ?_
                    refine lv_dup hx hb dX5_token_123 rfl ?_
                    refine xg_X5 hx hb hts hown hK hP 0 rfl 12 (by decide) fk_X5_218 (v := .int (iI j)) rfl dX5_token_124 ?_
                    refine lv_iconst (v := iI (1)) hx hb dX5_token_127 (by decide) ?_
                    refine xi_add hx hb dX5_token_128 ?_
                    refine xp_X5 hx hb hts hown hK hP hD hS 0 rfl 12 (by decide) fk_X5_218 rfl (v := .int (iI (j + 1))) rfl rfl (Nat.le_of_ble_eq_true rfl) dX5_token_129 (fun H locs hP hD hS => ?_)
                    have hP : va_P g.1 vwCl (wM g a f1 f2 f3 f4 f5 f6 f7 f8 f9 f10 f11 f12 f13 f20 f21 k (j + 1) f24 f25) H := hP
                    have hD : va_D (va_A (wM g a f1 f2 f3 f4 f5 f6 f7 f8 f9 f10 f11 f12 f13 f20 f21 f22 f23 f24 f25) s.heap.size) (wM g a f1 f2 f3 f4 f5 f6 f7 f8 f9 f10 f11 f12 f13 f20 f21 k (j + 1) f24 f25) := hD
                    refine lv_goto (tgt := 86) hx hb dX5_token_132 (by decide) ?_
                    exact ih86 (j + 1) (n - 1) ⟨by omega, by omega⟩ (by rw [rnW_step (by first | exact Or.inl ⟨rfl, (isL_i _).mpr (by assumption)⟩ | exact Or.inr ⟨by omega, rfl, (isD_i _).mpr (by assumption)⟩) (by omega)]; exact i86_2) (by omega) (by omega) ls (lv_sub hl [0, 1, 2] rfl) H locs hP hD hS
                  · refine xi_zf_ne hx hb ⟨by decide, by decide⟩ (by decide) dX5_token_101 ⟨122, by decide⟩ ?_
                    refine lv_iload_n hx hb dX5_token_104 rfl (lv_at hl 0 rfl) ?_
                    refine xi_zf_eq hx hb ⟨by decide, by decide⟩ (by decide) dX5_token_105 ⟨135, by decide⟩ ?_
                    refine lv_aload_n hx hb dX5_token_108 rfl (lv_at hl 2 rfl) ?_
                    refine lv_aload_n hx hb dX5_token_109 rfl (lv_at hl 2 rfl) ?_
                    refine xg_X5 hx hb hts hown hK hP 0 rfl 12 (by decide) fk_X5_218 (v := .int (iI j)) rfl dX5_token_110 ?_
                    refine xu_i (x := iI (bAt f9 f21 j)) (rV (rest := []) hx hb hml hown hts hK hl (c_X5_byteAt l g a f1 f2 f3 f4 f5 f6 f7 f8 f9 f10 f11 f12 f13 f20 f21 k j f24 f25 j (show 0 ≤ j ∧ j ≤ 121 from by omega) (show 0 ≤ f21 ∧ f21 ≤ 120 from by omega)) lk_X5_224 hP (va_recv hK.1 hP (ci := 5) (q0 := 0) rfl rfl) rfl rfl rfl (Rm.of rfl) rfl rfl dX5_token_113) ?_
                    refine xu_b (P := 48 ≤ (bAt f9 f21 j) ∧ (bAt f9 f21 j) ≤ 57) (rS (rest := []) hx hb hml hown hts hK hl (c_X5_isDigit l g (bAt f9 f21 j) (show IR (bAt f9 f21 j) from ⟨by omega, by omega⟩)) lk_X5_230 trivial rfl rfl rfl (Rm.of rfl) rfl rfl dX5_token_116) (fun z11 => ?_) (fun z11 => ?_)
                    · refine xi_zf_eq hx hb ⟨by decide, by decide⟩ (by decide) dX5_token_119 ⟨135, by decide⟩ ?_
                      refine lv_aload_n hx hb dX5_token_122 rfl (lv_at hl 2 rfl) ?_
                      refine lv_dup hx hb dX5_token_123 rfl ?_
                      refine xg_X5 hx hb hts hown hK hP 0 rfl 12 (by decide) fk_X5_218 (v := .int (iI j)) rfl dX5_token_124 ?_
                      refine lv_iconst (v := iI (1)) hx hb dX5_token_127 (by decide) ?_
                      refine xi_add hx hb dX5_token_128 ?_
                      refine xp_X5 hx hb hts hown hK hP hD hS 0 rfl 12 (by decide) fk_X5_218 rfl (v := .int (iI (j + 1))) rfl rfl (Nat.le_of_ble_eq_true rfl) dX5_token_129 (fun H locs hP hD hS => ?_)
                      have hP : va_P g.1 vwCl (wM g a f1 f2 f3 f4 f5 f6 f7 f8 f9 f10 f11 f12 f13 f20 f21 k (j + 1) f24 f25) H := hP
                      have hD : va_D (va_A (wM g a f1 f2 f3 f4 f5 f6 f7 f8 f9 f10 f11 f12 f13 f20 f21 f22 f23 f24 f25) s.heap.size) (wM g a f1 f2 f3 f4 f5 f6 f7 f8 f9 f10 f11 f12 f13 f20 f21 k (j + 1) f24 f25) := hD
                      refine lv_goto (tgt := 86) hx hb dX5_token_132 (by decide) ?_
                      exact ih86 (j + 1) (n - 1) ⟨by omega, by omega⟩ (by rw [rnW_step (by first | exact Or.inl ⟨rfl, (isL_i _).mpr (by assumption)⟩ | exact Or.inr ⟨by omega, rfl, (isD_i _).mpr (by assumption)⟩) (by omega)]; exact i86_2) (by omega) (by omega) ls (lv_sub hl [0, 1, 2] rfl) H locs hP hD hS
                    · refine xi_zt_eq (tgt := 135) hx hb ⟨by decide, by decide⟩ (by decide) dX5_token_119 (by decide) ?_
                      have he12 : k = (tkF f9 f21 f23) := hk
                      have hP := Eq.mp (congrArg (fun z9 => va_P g.1 vwCl (wM g a f1 f2 f3 f4 f5 f6 f7 f8 f9 f10 f11 f12 f13 f20 f21 z9 j f24 f25) H) he12) hP
                      have hD := Eq.mp (congrArg (fun z9 => va_D (va_A (wM g a f1 f2 f3 f4 f5 f6 f7 f8 f9 f10 f11 f12 f13 f20 f21 f22 f23 f24 f25) s.heap.size) (wM g a f1 f2 f3 f4 f5 f6 f7 f8 f9 f10 f11 f12 f13 f20 f21 z9 j f24 f25)) he12) hD
                      have he13 : j = (tkE f9 f21 (tkF f9 f21 f23)) := by rw [← hk, ← i86_2]; exact (rnW_stop (fun _ => by rw [isL_i]; omega) (fun _ _ => by rw [isD_i]; omega) n).symm
                      have hP := Eq.mp (congrArg (fun z9 => va_P g.1 vwCl (wM g a f1 f2 f3 f4 f5 f6 f7 f8 f9 f10 f11 f12 f13 f20 f21 (tkF f9 f21 f23) z9 f24 f25) H) he13) hP
                      have hD := Eq.mp (congrArg (fun z9 => va_D (va_A (wM g a f1 f2 f3 f4 f5 f6 f7 f8 f9 f10 f11 f12 f13 f20 f21 f22 f23 f24 f25) s.heap.size) (wM g a f1 f2 f3 f4 f5 f6 f7 f8 f9 f10 f11 f12 f13 f20 f21 (tkF f9 f21 f23) z9 f24 f25)) he13) hD
                      have hP : va_P g.1 vwCl (wM g a f1 f2 f3 f4 f5 f6 f7 f8 f9 f10 f11 f12 f13 f20 f21 (tkF f9 f21 f23) (tkE f9 f21 (tkF f9 f21 f23)) f24 f25) H := hP
                      have hD : va_D (va_A (wM g a f1 f2 f3 f4 f5 f6 f7 f8 f9 f10 f11 f12 f13 f20 f21 f22 f23 f24 f25) s.heap.size) (wM g a f1 f2 f3 f4 f5 f6 f7 f8 f9 f10 f11 f12 f13 f20 f21 (tkF f9 f21 f23) (tkE f9 f21 (tkF f9 f21 f23)) f24 f25) := hD
                      exact W.vret hx hb hr (fun t ht hW => ⟨⟨(), rfl, trivial, by rw [ht]; exact hP, hD⟩, hS.F ht⟩) hS.2.2 dX5_token_135
              exact lp86 (120 + 1) k 121 (by omega) (by first | exact tk_in (by omega) (by rw [isL_i]; omega) (by rw [isD_i]; omega) | exact tk_out (by omega) rfl rfl | (exfalso; omega)) (by omega) (by omega) ls (lv_sub hl [0, 1, 2] rfl) H locs hP hD hS
            · refine lv_aload_n hx hb dX5_token_70 rfl (lv_at hl 2 rfl) ?_
              refine xg_X5 hx hb hts hown hK hP 0 rfl 11 (by decide) fk_X5_221 (v := .int (iI k)) rfl dX5_token_71 ?_
              refine lv_iconst (v := iI (1)) hx hb dX5_token_74 (by decide) ?_
              refine xi_add hx hb dX5_token_75 ?_
              refine lv_goto (tgt := 83) hx hb dX5_token_76 (by decide) ?_
              refine xp_X5 hx hb hts hown hK hP hD hS 0 rfl 12 (by decide) fk_X5_218 rfl (v := .int (iI (k + 1))) rfl rfl (Nat.le_of_ble_eq_true rfl) dX5_token_83 (fun H locs hP hD hS => ?_)
              have hP : va_P g.1 vwCl (wM g a f1 f2 f3 f4 f5 f6 f7 f8 f9 f10 f11 f12 f13 f20 f21 k (k + 1) f24 f25) H := hP
              have hD : va_D (va_A (wM g a f1 f2 f3 f4 f5 f6 f7 f8 f9 f10 f11 f12 f13 f20 f21 f22 f23 f24 f25) s.heap.size) (wM g a f1 f2 f3 f4 f5 f6 f7 f8 f9 f10 f11 f12 f13 f20 f21 k (k + 1) f24 f25) := hD
              have lp86 : ∀ (n86 : Nat) (j : Int) (n : Nat), (0 ≤ j ∧ j ≤ f21) → (rnW f9 f21 1 1 n j = tkE f9 f21 k) → (f21 - j < n) → (f21 - j).toNat < n86 → ∀ ls : Array Slot, lv_has ls 3 [(2, .int (iI 1)), (1, .int (iI 1)), (0, .ref (a 0))] → ∀ (H : Heap) (locs : List Loc), va_P g.1 vwCl (wM g a f1 f2 f3 f4 f5 f6 f7 f8 f9 f10 f11 f12 f13 f20 f21 k j f24 f25) H → va_D (va_A (wM g a f1 f2 f3 f4 f5 f6 f7 f8 f9 f10 f11 f12 f13 f20 f21 f22 f23 f24 f25) s.heap.size) (wM g a f1 f2 f3 f4 f5 f6 f7 f8 f9 f10 f11 f12 f13 f20 f21 k j f24 f25) → va_S (va_A (wM g a f1 f2 f3 f4 f5 f6 f7 f8 f9 f10 f11 f12 f13 f20 f21 f22 f23 f24 f25) s.heap.size) s.heap H locs → W pq l eq rm_X5_token s mq [.ref (a 0)].toArray below meth cq H locs 0 0 (MQ below (QMv g (fun _ : Unit => wM g a f1 f2 f3 f4 f5 f6 f7 f8 f9 f10 f11 f12 f13 f20 f21 (tkF f9 f21 f23) (tkE f9 f21 (tkF f9 f21 f23)) f24 f25) (fun _ => True) (va_A (wM g a f1 f2 f3 f4 f5 f6 f7 f8 f9 f10 f11 f12 f13 f20 f21 f22 f23 f24 f25) s.heap.size)) [.ref (a 0)].toArray s 0 0 (va_A (wM g a f1 f2 f3 f4 f5 f6 f7 f8 f9 f10 f11 f12 f13 f20 f21 f22 f23 f24 f25) s.heap.size)) (F0 mq 86 ls []) := by
                intro n86
                induction n86 with
                | zero => intro j n i86_1 i86_2 i86_3 hm; exact absurd hm (Nat.not_lt_zero _)
                | succ n86 ih86 =>
                  intro j n i86_1 i86_2 i86_3 hm86 ls hl H locs hP hD hS
                  have hb8 := hbb j
                  have hd8 := bAt_d f9 f21 j
                  refine lv_iload_n hx hb dX5_token_86 rfl (lv_at hl 1 rfl) ?_
                  refine xi_zf_eq hx hb ⟨by decide, by decide⟩ (by decide) dX5_token_87 ⟨104, by decide⟩ ?_
                  refine lv_aload_n hx hb dX5_token_90 rfl (lv_at hl 2 rfl) ?_
                  refine lv_aload_n hx hb dX5_token_91 rfl (lv_at hl 2 rfl) ?_
                  refine xg_X5 hx hb hts hown hK hP 0 rfl 12 (by decide) fk_X5_218 (v := .int (iI j)) rfl dX5_token_92 ?_
                  refine xu_i (x := iI (bAt f9 f21 j)) (rV (rest := []) hx hb hml hown hts hK hl (c_X5_byteAt l g a f1 f2 f3 f4 f5 f6 f7 f8 f9 f10 f11 f12 f13 f20 f21 k j f24 f25 j (show 0 ≤ j ∧ j ≤ 121 from by omega) (show 0 ≤ f21 ∧ f21 ≤ 120 from by omega)) lk_X5_224 hP (va_recv hK.1 hP (ci := 5) (q0 := 0) rfl rfl) rfl rfl rfl (Rm.of rfl) rfl rfl dX5_token_95) ?_
                  refine xu_b (P := 97 ≤ (bAt f9 f21 j) ∧ (bAt f9 f21 j) ≤ 122) (rS (rest := []) hx hb hml hown hts hK hl (c_X5_isLetter l g (bAt f9 f21 j) (show IR (bAt f9 f21 j) from ⟨by omega, by omega⟩)) lk_X5_227 trivial rfl rfl rfl (Rm.of rfl) rfl rfl dX5_token_98) (fun z15 => ?_) (fun z15 => ?_)
                  · refine xi_zt_ne (tgt := 122) hx hb ⟨by decide, by decide⟩ (by decide) dX5_token_101 (by decide) ?_
                    refine lv_aload_n hx hb dX5_token_122 rfl (lv_at hl 2 rfl) ?_
                    refine lv_dup hx hb dX5_token_123 rfl ?_
                    refine xg_X5 hx hb hts hown hK hP 0 rfl 12 (by decide) fk_X5_218 (v := .int (iI j)) rfl dX5_token_124 ?_
                    refine lv_iconst (v := iI (1)) hx hb dX5_token_127 (by decide) ?_
                    refine xi_add hx hb dX5_token_128 ?_
                    refine xp_X5 hx hb hts hown hK hP hD hS 0 rfl 12 (by decide) fk_X5_218 rfl (v := .int (iI (j + 1))) rfl rfl (Nat.le_of_ble_eq_true rfl) dX5_token_129 (fun H locs hP hD hS => ?_)
                    have hP : va_P g.1 vwCl (wM g a f1 f2 f3 f4 f5 f6 f7 f8 f9 f10 f11 f12 f13 f20 f21 k (j + 1) f24 f25) H := hP
                    have hD : va_D (va_A (wM g a f1 f2 f3 f4 f5 f6 f7 f8 f9 f10 f11 f12 f13 f20 f21 f22 f23 f24 f25) s.heap.size) (wM g a f1 f2 f3 f4 f5 f6 f7 f8 f9 f10 f11 f12 f13 f20 f21 k (j + 1) f24 f25) := hD
                    refine lv_goto (tgt := 86) hx hb dX5_token_132 (by decide) ?_
                    exact ih86 (j + 1) (n - 1) ⟨by omega, by omega⟩ (by rw [rnW_step (by first | exact Or.inl ⟨rfl, (isL_i _).mpr (by assumption)⟩ | exact Or.inr ⟨by omega, rfl, (isD_i _).mpr (by assumption)⟩) (by omega)]; exact i86_2) (by omega) (by omega) ls (lv_sub hl [0, 1, 2] rfl) H locs hP hD hS
                  · refine xi_zf_ne hx hb ⟨by decide, by decide⟩ (by decide) dX5_token_101 ⟨122, by decide⟩ ?_
                    refine lv_iload_n hx hb dX5_token_104 rfl (lv_at hl 0 rfl) ?_
                    refine xi_zf_eq hx hb ⟨by decide, by decide⟩ (by decide) dX5_token_105 ⟨135, by decide⟩ ?_
                    refine lv_aload_n hx hb dX5_token_108 rfl (lv_at hl 2 rfl) ?_
                    refine lv_aload_n hx hb dX5_token_109 rfl (lv_at hl 2 rfl) ?_
                    refine xg_X5 hx hb hts hown hK hP 0 rfl 12 (by decide) fk_X5_218 (v := .int (iI j)) rfl dX5_token_110 ?_
                    refine xu_i (x := iI (bAt f9 f21 j)) (rV (rest := []) hx hb hml hown hts hK hl (c_X5_byteAt l g a f1 f2 f3 f4 f5 f6 f7 f8 f9 f10 f11 f12 f13 f20 f21 k j f24 f25 j (show 0 ≤ j ∧ j ≤ 121 from by omega) (show 0 ≤ f21 ∧ f21 ≤ 120 from by omega)) lk_X5_224 hP (va_recv hK.1 hP (ci := 5) (q0 := 0) rfl rfl) rfl rfl rfl (Rm.of rfl) rfl rfl dX5_token_113) ?_
                    refine xu_b (P := 48 ≤ (bAt f9 f21 j) ∧ (bAt f9 f21 j) ≤ 57) (rS (rest := []) hx hb hml hown hts hK hl (c_X5_isDigit l g (bAt f9 f21 j) (show IR (bAt f9 f21 j) from ⟨by omega, by omega⟩)) lk_X5_230 trivial rfl rfl rfl (Rm.of rfl) rfl rfl dX5_token_116) (fun z17 => ?_) (fun z17 => ?_)
                    · refine xi_zf_eq hx hb ⟨by decide, by decide⟩ (by decide) dX5_token_119 ⟨135, by decide⟩ ?_
                      refine lv_aload_n hx hb dX5_token_122 rfl (lv_at hl 2 rfl) ?_
                      refine lv_dup hx hb dX5_token_123 rfl ?_
                      refine xg_X5 hx hb hts hown hK hP 0 rfl 12 (by decide) fk_X5_218 (v := .int (iI j)) rfl dX5_token_124 ?_
                      refine lv_iconst (v := iI (1)) hx hb dX5_token_127 (by decide) ?_
                      refine xi_add hx hb dX5_token_128 ?_
                      refine xp_X5 hx hb hts hown hK hP hD hS 0 rfl 12 (by decide) fk_X5_218 rfl (v := .int (iI (j + 1))) rfl rfl (Nat.le_of_ble_eq_true rfl) dX5_token_129 (fun H locs hP hD hS => ?_)
                      have hP : va_P g.1 vwCl (wM g a f1 f2 f3 f4 f5 f6 f7 f8 f9 f10 f11 f12 f13 f20 f21 k (j + 1) f24 f25) H := hP
                      have hD : va_D (va_A (wM g a f1 f2 f3 f4 f5 f6 f7 f8 f9 f10 f11 f12 f13 f20 f21 f22 f23 f24 f25) s.heap.size) (wM g a f1 f2 f3 f4 f5 f6 f7 f8 f9 f10 f11 f12 f13 f20 f21 k (j + 1) f24 f25) := hD
                      refine lv_goto (tgt := 86) hx hb dX5_token_132 (by decide) ?_
                      exact ih86 (j + 1) (n - 1) ⟨by omega, by omega⟩ (by rw [rnW_step (by first | exact Or.inl ⟨rfl, (isL_i _).mpr (by assumption)⟩ | exact Or.inr ⟨by omega, rfl, (isD_i _).mpr (by assumption)⟩) (by omega)]; exact i86_2) (by omega) (by omega) ls (lv_sub hl [0, 1, 2] rfl) H locs hP hD hS
                    · refine xi_zt_eq (tgt := 135) hx hb ⟨by decide, by decide⟩ (by decide) dX5_token_119 (by decide) ?_
                      have he18 : k = (tkF f9 f21 f23) := hk
                      have hP := Eq.mp (congrArg (fun z9 => va_P g.1 vwCl (wM g a f1 f2 f3 f4 f5 f6 f7 f8 f9 f10 f11 f12 f13 f20 f21 z9 j f24 f25) H) he18) hP
                      have hD := Eq.mp (congrArg (fun z9 => va_D (va_A (wM g a f1 f2 f3 f4 f5 f6 f7 f8 f9 f10 f11 f12 f13 f20 f21 f22 f23 f24 f25) s.heap.size) (wM g a f1 f2 f3 f4 f5 f6 f7 f8 f9 f10 f11 f12 f13 f20 f21 z9 j f24 f25)) he18) hD
                      have he19 : j = (tkE f9 f21 (tkF f9 f21 f23)) := by rw [← hk, ← i86_2]; exact (rnW_stop (fun _ => by rw [isL_i]; omega) (fun _ _ => by rw [isD_i]; omega) n).symm
                      have hP := Eq.mp (congrArg (fun z9 => va_P g.1 vwCl (wM g a f1 f2 f3 f4 f5 f6 f7 f8 f9 f10 f11 f12 f13 f20 f21 (tkF f9 f21 f23) z9 f24 f25) H) he19) hP
                      have hD := Eq.mp (congrArg (fun z9 => va_D (va_A (wM g a f1 f2 f3 f4 f5 f6 f7 f8 f9 f10 f11 f12 f13 f20 f21 f22 f23 f24 f25) s.heap.size) (wM g a f1 f2 f3 f4 f5 f6 f7 f8 f9 f10 f11 f12 f13 f20 f21 (tkF f9 f21 f23) z9 f24 f25)) he19) hD
                      have hP : va_P g.1 vwCl (wM g a f1 f2 f3 f4 f5 f6 f7 f8 f9 f10 f11 f12 f13 f20 f21 (tkF f9 f21 f23) (tkE f9 f21 (tkF f9 f21 f23)) f24 f25) H := hP
                      have hD : va_D (va_A (wM g a f1 f2 f3 f4 f5 f6 f7 f8 f9 f10 f11 f12 f13 f20 f21 f22 f23 f24 f25) s.heap.size) (wM g a f1 f2 f3 f4 f5 f6 f7 f8 f9 f10 f11 f12 f13 f20 f21 (tkF f9 f21 f23) (tkE f9 f21 (tkF f9 f21 f23)) f24 f25) := hD
                      exact W.vret hx hb hr (fun t ht hW => ⟨⟨(), rfl, trivial, by rw [ht]; exact hP, hD⟩, hS.F ht⟩) hS.2.2 dX5_token_135
              exact lp86 (120 + 1) (k + 1) 121 (by omega) (by first | exact tk_in (by omega) (by rw [isL_i]; omega) (by rw [isD_i]; omega) | exact tk_out (by omega) rfl rfl | (exfalso; omega)) (by omega) (by omega) ls (lv_sub hl [0, 1, 2] rfl) H locs hP hD hS
          · refine lv_istore_n (lv' := [(2, .int (iI 0)), (1, .int (iI 1)), (0, .ref (a 0))]) hx hb dX5_token_57 rfl hl (by decide) rfl (fun ls hl => ?_)
            refine lv_aload_n hx hb dX5_token_58 rfl (lv_at hl 2 rfl) ?_
            refine lv_aload_n hx hb dX5_token_59 rfl (lv_at hl 2 rfl) ?_
            refine xg_X5 hx hb hts hown hK hP 0 rfl 11 (by decide) fk_X5_221 (v := .int (iI k)) rfl dX5_token_60 ?_
            refine lv_aload_n hx hb dX5_token_63 rfl (lv_at hl 2 rfl) ?_
            refine xg_X5 hx hb hts hown hK hP 0 rfl 10 (by decide) fk_X5_206 (v := .int (iI f21)) rfl dX5_token_64 ?_
            refine xi_c_ge (tgt := 79) hx hb ⟨by omega, by omega⟩ ⟨by omega, by omega⟩ dX5_token_67 (by decide) (fun z20 => ?_) (fun z20 => ?_)
            · refine lv_aload_n hx hb dX5_token_79 rfl (lv_at hl 2 rfl) ?_
              refine xg_X5 hx hb hts hown hK hP 0 rfl 11 (by decide) fk_X5_221 (v := .int (iI k)) rfl dX5_token_80 ?_
              refine xp_X5 hx hb hts hown hK hP hD hS 0 rfl 12 (by decide) fk_X5_218 rfl (v := .int (iI k)) rfl rfl (Nat.le_of_ble_eq_true rfl) dX5_token_83 (fun H locs hP hD hS => ?_)
              have hP : va_P g.1 vwCl (wM g a f1 f2 f3 f4 f5 f6 f7 f8 f9 f10 f11 f12 f13 f20 f21 k k f24 f25) H := hP
              have hD : va_D (va_A (wM g a f1 f2 f3 f4 f5 f6 f7 f8 f9 f10 f11 f12 f13 f20 f21 f22 f23 f24 f25) s.heap.size) (wM g a f1 f2 f3 f4 f5 f6 f7 f8 f9 f10 f11 f12 f13 f20 f21 k k f24 f25) := hD
              have lp86 : ∀ (n86 : Nat) (j : Int) (n : Nat), (0 ≤ j ∧ j ≤ f21) → (rnW f9 f21 1 0 n j = tkE f9 f21 k) → (f21 - j < n) → (f21 - j).toNat < n86 → ∀ ls : Array Slot, lv_has ls 3 [(2, .int (iI 0)), (1, .int (iI 1)), (0, .ref (a 0))] → ∀ (H : Heap) (locs : List Loc), va_P g.1 vwCl (wM g a f1 f2 f3 f4 f5 f6 f7 f8 f9 f10 f11 f12 f13 f20 f21 k j f24 f25) H → va_D (va_A (wM g a f1 f2 f3 f4 f5 f6 f7 f8 f9 f10 f11 f12 f13 f20 f21 f22 f23 f24 f25) s.heap.size) (wM g a f1 f2 f3 f4 f5 f6 f7 f8 f9 f10 f11 f12 f13 f20 f21 k j f24 f25) → va_S (va_A (wM g a f1 f2 f3 f4 f5 f6 f7 f8 f9 f10 f11 f12 f13 f20 f21 f22 f23 f24 f25) s.heap.size) s.heap H locs → W pq l eq rm_X5_token s mq [.ref (a 0)].toArray below meth cq H locs 0 0 (MQ below (QMv g (fun _ : Unit => wM g a f1 f2 f3 f4 f5 f6 f7 f8 f9 f10 f11 f12 f13 f20 f21 (tkF f9 f21 f23) (tkE f9 f21 (tkF f9 f21 f23)) f24 f25) (fun _ => True) (va_A (wM g a f1 f2 f3 f4 f5 f6 f7 f8 f9 f10 f11 f12 f13 f20 f21 f22 f23 f24 f25) s.heap.size)) [.ref (a 0)].toArray s 0 0 (va_A (wM g a f1 f2 f3 f4 f5 f6 f7 f8 f9 f10 f11 f12 f13 f20 f21 f22 f23 f24 f25) s.heap.size)) (F0 mq 86 ls []) := by
                intro n86
                induction n86 with
                | zero => intro j n i86_1 i86_2 i86_3 hm; exact absurd hm (Nat.not_lt_zero _)
                | succ n86 ih86 =>
                  intro j n i86_1 i86_2 i86_3 hm86 ls hl H locs hP hD hS
                  have hb8 := hbb j
                  have hd8 := bAt_d f9 f21 j
                  refine lv_iload_n hx hb dX5_token_86 rfl (lv_at hl 1 rfl) ?_
                  refine xi_zf_eq hx hb ⟨by decide, by decide⟩ (by decide) dX5_token_87 ⟨104, by decide⟩ ?_
                  refine lv_aload_n hx hb dX5_token_90 rfl (lv_at hl 2 rfl) ?_
                  refine lv_aload_n hx hb dX5_token_91 rfl (lv_at hl 2 rfl) ?_
                  refine xg_X5 hx hb hts hown hK hP 0 rfl 12 (by decide) fk_X5_218 (v := .int (iI j)) rfl dX5_token_92 ?_
                  refine xu_i (x := iI (bAt f9 f21 j)) (rV (rest := []) hx hb hml hown hts hK hl (c_X5_byteAt l g a f1 f2 f3 f4 f5 f6 f7 f8 f9 f10 f11 f12 f13 f20 f21 k j f24 f25 j (show 0 ≤ j ∧ j ≤ 121 from by omega) (show 0 ≤ f21 ∧ f21 ≤ 120 from by omega)) lk_X5_224 hP (va_recv hK.1 hP (ci := 5) (q0 := 0) rfl rfl) rfl rfl rfl (Rm.of rfl) rfl rfl dX5_token_95) ?_
                  refine xu_b (P := 97 ≤ (bAt f9 f21 j) ∧ (bAt f9 f21 j) ≤ 122) (rS (rest := []) hx hb hml hown hts hK hl (c_X5_isLetter l g (bAt f9 f21 j) (show IR (bAt f9 f21 j) from ⟨by omega, by omega⟩)) lk_X5_227 trivial rfl rfl rfl (Rm.of rfl) rfl rfl dX5_token_98) (fun z22 => ?_) (fun z22 => ?_)
                  · refine xi_zt_ne (tgt := 122) hx hb ⟨by decide, by decide⟩ (by decide) dX5_token_101 (by decide) ?_
                    refine lv_aload_n hx hb dX5_token_122 rfl (lv_at hl 2 rfl) ?_
                    refine lv_dup hx hb dX5_token_123 rfl ?_
                    refine xg_X5 hx hb hts hown hK hP 0 rfl 12 (by decide) fk_X5_218 (v := .int (iI j)) rfl dX5_token_124 ?_
                    refine lv_iconst (v := iI (1)) hx hb dX5_token_127 (by decide) ?_
                    refine xi_add hx hb dX5_token_128 ?_
                    refine xp_X5 hx hb hts hown hK hP hD hS 0 rfl 12 (by decide) fk_X5_218 rfl (v := .int (iI (j + 1))) rfl rfl (Nat.le_of_ble_eq_true rfl) dX5_token_129 (fun H locs hP hD hS => ?_)
                    have hP : va_P g.1 vwCl (wM g a f1 f2 f3 f4 f5 f6 f7 f8 f9 f10 f11 f12 f13 f20 f21 k (j + 1) f24 f25) H := hP
                    have hD : va_D (va_A (wM g a f1 f2 f3 f4 f5 f6 f7 f8 f9 f10 f11 f12 f13 f20 f21 f22 f23 f24 f25) s.heap.size) (wM g a f1 f2 f3 f4 f5 f6 f7 f8 f9 f10 f11 f12 f13 f20 f21 k (j + 1) f24 f25) := hD
                    refine lv_goto (tgt := 86) hx hb dX5_token_132 (by decide) ?_
                    exact ih86 (j + 1) (n - 1) ⟨by omega, by omega⟩ (by rw [rnW_step (by first | exact Or.inl ⟨rfl, (isL_i _).mpr (by assumption)⟩ | exact Or.inr ⟨by omega, rfl, (isD_i _).mpr (by assumption)⟩) (by omega)]; exact i86_2) (by omega) (by omega) ls (lv_sub hl [0, 1, 2] rfl) H locs hP hD hS
                  · refine xi_zf_ne hx hb ⟨by decide, by decide⟩ (by decide) dX5_token_101 ⟨122, by decide⟩ ?_
                    refine lv_iload_n hx hb dX5_token_104 rfl (lv_at hl 0 rfl) ?_
                    refine xi_zt_eq (tgt := 135) hx hb ⟨by decide, by decide⟩ (by decide) dX5_token_105 (by decide) ?_
                    have he23 : k = (tkF f9 f21 f23) := hk
                    have hP := Eq.mp (congrArg (fun z9 => va_P g.1 vwCl (wM g a f1 f2 f3 f4 f5 f6 f7 f8 f9 f10 f11 f12 f13 f20 f21 z9 j f24 f25) H) he23) hP
                    have hD := Eq.mp (congrArg (fun z9 => va_D (va_A (wM g a f1 f2 f3 f4 f5 f6 f7 f8 f9 f10 f11 f12 f13 f20 f21 f22 f23 f24 f25) s.heap.size) (wM g a f1 f2 f3 f4 f5 f6 f7 f8 f9 f10 f11 f12 f13 f20 f21 z9 j f24 f25)) he23) hD
                    have he24 : j = (tkE f9 f21 (tkF f9 f21 f23)) := by rw [← hk, ← i86_2]; exact (rnW_stop (fun _ => by rw [isL_i]; omega) (fun _ _ => by rw [isD_i]; omega) n).symm
                    have hP := Eq.mp (congrArg (fun z9 => va_P g.1 vwCl (wM g a f1 f2 f3 f4 f5 f6 f7 f8 f9 f10 f11 f12 f13 f20 f21 (tkF f9 f21 f23) z9 f24 f25) H) he24) hP
                    have hD := Eq.mp (congrArg (fun z9 => va_D (va_A (wM g a f1 f2 f3 f4 f5 f6 f7 f8 f9 f10 f11 f12 f13 f20 f21 f22 f23 f24 f25) s.heap.size) (wM g a f1 f2 f3 f4 f5 f6 f7 f8 f9 f10 f11 f12 f13 f20 f21 (tkF f9 f21 f23) z9 f24 f25)) he24) hD
                    have hP : va_P g.1 vwCl (wM g a f1 f2 f3 f4 f5 f6 f7 f8 f9 f10 f11 f12 f13 f20 f21 (tkF f9 f21 f23) (tkE f9 f21 (tkF f9 f21 f23)) f24 f25) H := hP
                    have hD : va_D (va_A (wM g a f1 f2 f3 f4 f5 f6 f7 f8 f9 f10 f11 f12 f13 f20 f21 f22 f23 f24 f25) s.heap.size) (wM g a f1 f2 f3 f4 f5 f6 f7 f8 f9 f10 f11 f12 f13 f20 f21 (tkF f9 f21 f23) (tkE f9 f21 (tkF f9 f21 f23)) f24 f25) := hD
                    exact W.vret hx hb hr (fun t ht hW => ⟨⟨(), rfl, trivial, by rw [ht]; exact hP, hD⟩, hS.F ht⟩) hS.2.2 dX5_token_135
              exact lp86 (120 + 1) k 121 (by omega) (by first | exact tk_in (by omega) (by rw [isL_i]; omega) (by rw [isD_i]; omega) | exact tk_out (by omega) rfl rfl | (exfalso; omega)) (by omega) (by omega) ls (lv_sub hl [0, 1, 2] rfl) H locs hP hD hS
            · refine lv_aload_n hx hb dX5_token_70 rfl (lv_at hl 2 rfl) ?_
              refine xg_X5 hx hb hts hown hK hP 0 rfl 11 (by decide) fk_X5_221 (v := .int (iI k)) rfl dX5_token_71 ?_
              refine lv_iconst (v := iI (1)) hx hb dX5_token_74 (by decide) ?_
              refine xi_add hx hb dX5_token_75 ?_
              refine lv_goto (tgt := 83) hx hb dX5_token_76 (by decide) ?_
              refine xp_X5 hx hb hts hown hK hP hD hS 0 rfl 12 (by decide) fk_X5_218 rfl (v := .int (iI (k + 1))) rfl rfl (Nat.le_of_ble_eq_true rfl) dX5_token_83 (fun H locs hP hD hS => ?_)
              have hP : va_P g.1 vwCl (wM g a f1 f2 f3 f4 f5 f6 f7 f8 f9 f10 f11 f12 f13 f20 f21 k (k + 1) f24 f25) H := hP
              have hD : va_D (va_A (wM g a f1 f2 f3 f4 f5 f6 f7 f8 f9 f10 f11 f12 f13 f20 f21 f22 f23 f24 f25) s.heap.size) (wM g a f1 f2 f3 f4 f5 f6 f7 f8 f9 f10 f11 f12 f13 f20 f21 k (k + 1) f24 f25) := hD
              have lp86 : ∀ (n86 : Nat) (j : Int) (n : Nat), (0 ≤ j ∧ j ≤ f21) → (rnW f9 f21 1 0 n j = tkE f9 f21 k) → (f21 - j < n) → (f21 - j).toNat < n86 → ∀ ls : Array Slot, lv_has ls 3 [(2, .int (iI 0)), (1, .int (iI 1)), (0, .ref (a 0))] → ∀ (H : Heap) (locs : List Loc), va_P g.1 vwCl (wM g a f1 f2 f3 f4 f5 f6 f7 f8 f9 f10 f11 f12 f13 f20 f21 k j f24 f25) H → va_D (va_A (wM g a f1 f2 f3 f4 f5 f6 f7 f8 f9 f10 f11 f12 f13 f20 f21 f22 f23 f24 f25) s.heap.size) (wM g a f1 f2 f3 f4 f5 f6 f7 f8 f9 f10 f11 f12 f13 f20 f21 k j f24 f25) → va_S (va_A (wM g a f1 f2 f3 f4 f5 f6 f7 f8 f9 f10 f11 f12 f13 f20 f21 f22 f23 f24 f25) s.heap.size) s.heap H locs → W pq l eq rm_X5_token s mq [.ref (a 0)].toArray below meth cq H locs 0 0 (MQ below (QMv g (fun _ : Unit => wM g a f1 f2 f3 f4 f5 f6 f7 f8 f9 f10 f11 f12 f13 f20 f21 (tkF f9 f21 f23) (tkE f9 f21 (tkF f9 f21 f23)) f24 f25) (fun _ => True) (va_A (wM g a f1 f2 f3 f4 f5 f6 f7 f8 f9 f10 f11 f12 f13 f20 f21 f22 f23 f24 f25) s.heap.size)) [.ref (a 0)].toArray s 0 0 (va_A (wM g a f1 f2 f3 f4 f5 f6 f7 f8 f9 f10 f11 f12 f13 f20 f21 f22 f23 f24 f25) s.heap.size)) (F0 mq 86 ls []) := by
                intro n86
                induction n86 with
                | zero => intro j n i86_1 i86_2 i86_3 hm; exact absurd hm (Nat.not_lt_zero _)
                | succ n86 ih86 =>
                  intro j n i86_1 i86_2 i86_3 hm86 ls hl H locs hP hD hS
                  have hb8 := hbb j
                  have hd8 := bAt_d f9 f21 j
                  refine lv_iload_n hx hb dX5_token_86 rfl (lv_at hl 1 rfl) ?_
                  refine xi_zf_eq hx hb ⟨by decide, by decide⟩ (by decide) dX5_token_87 ⟨104, by decide⟩ ?_
                  refine lv_aload_n hx hb dX5_token_90 rfl (lv_at hl 2 rfl) ?_
                  refine lv_aload_n hx hb dX5_token_91 rfl (lv_at hl 2 rfl) ?_
                  refine xg_X5 hx hb hts hown hK hP 0 rfl 12 (by decide) fk_X5_218 (v := .int (iI j)) rfl dX5_token_92 ?_
                  refine xu_i (x := iI (bAt f9 f21 j)) (rV (rest := []) hx hb hml hown hts hK hl (c_X5_byteAt l g a f1 f2 f3 f4 f5 f6 f7 f8 f9 f10 f11 f12 f13 f20 f21 k j f24 f25 j (show 0 ≤ j ∧ j ≤ 121 from by omega) (show 0 ≤ f21 ∧ f21 ≤ 120 from by omega)) lk_X5_224 hP (va_recv hK.1 hP (ci := 5) (q0 := 0) rfl rfl) rfl rfl rfl (Rm.of rfl) rfl rfl dX5_token_95) ?_
                  refine xu_b (P := 97 ≤ (bAt f9 f21 j) ∧ (bAt f9 f21 j) ≤ 122) (rS (rest := []) hx hb hml hown hts hK hl (c_X5_isLetter l g (bAt f9 f21 j) (show IR (bAt f9 f21 j) from ⟨by omega, by omega⟩)) lk_X5_227 trivial rfl rfl rfl (Rm.of rfl) rfl rfl dX5_token_98) (fun z26 => ?_) (fun z26 => ?_)
                  · refine xi_zt_ne (tgt := 122) hx hb ⟨by decide, by decide⟩ (by decide) dX5_token_101 (by decide) ?_
                    refine lv_aload_n hx hb dX5_token_122 rfl (lv_at hl 2 rfl) ?_
                    refine lv_dup hx hb dX5_token_123 rfl ?_
                    refine xg_X5 hx hb hts hown hK hP 0 rfl 12 (by decide) fk_X5_218 (v := .int (iI j)) rfl dX5_token_124 ?_
                    refine lv_iconst (v := iI (1)) hx hb dX5_token_127 (by decide) ?_
                    refine xi_add hx hb dX5_token_128 ?_
                    refine xp_X5 hx hb hts hown hK hP hD hS 0 rfl 12 (by decide) fk_X5_218 rfl (v := .int (iI (j + 1))) rfl rfl (Nat.le_of_ble_eq_true rfl) dX5_token_129 (fun H locs hP hD hS => ?_)
                    have hP : va_P g.1 vwCl (wM g a f1 f2 f3 f4 f5 f6 f7 f8 f9 f10 f11 f12 f13 f20 f21 k (j + 1) f24 f25) H := hP
                    have hD : va_D (va_A (wM g a f1 f2 f3 f4 f5 f6 f7 f8 f9 f10 f11 f12 f13 f20 f21 f22 f23 f24 f25) s.heap.size) (wM g a f1 f2 f3 f4 f5 f6 f7 f8 f9 f10 f11 f12 f13 f20 f21 k (j + 1) f24 f25) := hD
                    refine lv_goto (tgt := 86) hx hb dX5_token_132 (by decide) ?_
                    exact ih86 (j + 1) (n - 1) ⟨by omega, by omega⟩ (by rw [rnW_step (by first | exact Or.inl ⟨rfl, (isL_i _).mpr (by assumption)⟩ | exact Or.inr ⟨by omega, rfl, (isD_i _).mpr (by assumption)⟩) (by omega)]; exact i86_2) (by omega) (by omega) ls (lv_sub hl [0, 1, 2] rfl) H locs hP hD hS
                  · refine xi_zf_ne hx hb ⟨by decide, by decide⟩ (by decide) dX5_token_101 ⟨122, by decide⟩ ?_
                    refine lv_iload_n hx hb dX5_token_104 rfl (lv_at hl 0 rfl) ?_
                    refine xi_zt_eq (tgt := 135) hx hb ⟨by decide, by decide⟩ (by decide) dX5_token_105 (by decide) ?_
                    have he27 : k = (tkF f9 f21 f23) := hk
                    have hP := Eq.mp (congrArg (fun z9 => va_P g.1 vwCl (wM g a f1 f2 f3 f4 f5 f6 f7 f8 f9 f10 f11 f12 f13 f20 f21 z9 j f24 f25) H) he27) hP
                    have hD := Eq.mp (congrArg (fun z9 => va_D (va_A (wM g a f1 f2 f3 f4 f5 f6 f7 f8 f9 f10 f11 f12 f13 f20 f21 f22 f23 f24 f25) s.heap.size) (wM g a f1 f2 f3 f4 f5 f6 f7 f8 f9 f10 f11 f12 f13 f20 f21 z9 j f24 f25)) he27) hD
                    have he28 : j = (tkE f9 f21 (tkF f9 f21 f23)) := by rw [← hk, ← i86_2]; exact (rnW_stop (fun _ => by rw [isL_i]; omega) (fun _ _ => by rw [isD_i]; omega) n).symm
                    have hP := Eq.mp (congrArg (fun z9 => va_P g.1 vwCl (wM g a f1 f2 f3 f4 f5 f6 f7 f8 f9 f10 f11 f12 f13 f20 f21 (tkF f9 f21 f23) z9 f24 f25) H) he28) hP
                    have hD := Eq.mp (congrArg (fun z9 => va_D (va_A (wM g a f1 f2 f3 f4 f5 f6 f7 f8 f9 f10 f11 f12 f13 f20 f21 f22 f23 f24 f25) s.heap.size) (wM g a f1 f2 f3 f4 f5 f6 f7 f8 f9 f10 f11 f12 f13 f20 f21 (tkF f9 f21 f23) z9 f24 f25)) he28) hD
                    have hP : va_P g.1 vwCl (wM g a f1 f2 f3 f4 f5 f6 f7 f8 f9 f10 f11 f12 f13 f20 f21 (tkF f9 f21 f23) (tkE f9 f21 (tkF f9 f21 f23)) f24 f25) H := hP
                    have hD : va_D (va_A (wM g a f1 f2 f3 f4 f5 f6 f7 f8 f9 f10 f11 f12 f13 f20 f21 f22 f23 f24 f25) s.heap.size) (wM g a f1 f2 f3 f4 f5 f6 f7 f8 f9 f10 f11 f12 f13 f20 f21 (tkF f9 f21 f23) (tkE f9 f21 (tkF f9 f21 f23)) f24 f25) := hD
                    exact W.vret hx hb hr (fun t ht hW => ⟨⟨(), rfl, trivial, by rw [ht]; exact hP, hD⟩, hS.F ht⟩) hS.2.2 dX5_token_135
              exact lp86 (120 + 1) (k + 1) 121 (by omega) (by first | exact tk_in (by omega) (by rw [isL_i]; omega) (by rw [isD_i]; omega) | exact tk_out (by omega) rfl rfl | (exfalso; omega)) (by omega) (by omega) ls (lv_sub hl [0, 1, 2] rfl) H locs hP hD hS
        · refine lv_istore_n (lv' := [(1, .int (iI 0)), (0, .ref (a 0))]) hx hb dX5_token_45 rfl hl (by decide) rfl (fun ls hl => ?_)
          refine lv_aload_n hx hb dX5_token_46 rfl (lv_at hl 1 rfl) ?_
          refine lv_aload_n hx hb dX5_token_47 rfl (lv_at hl 1 rfl) ?_
          refine xg_X5 hx hb hts hown hK hP 0 rfl 11 (by decide) fk_X5_221 (v := .int (iI k)) rfl dX5_token_48 ?_
          refine xu_i (x := iI (bAt f9 f21 k)) (rV (rest := []) hx hb hml hown hts hK hl (c_X5_byteAt l g a f1 f2 f3 f4 f5 f6 f7 f8 f9 f10 f11 f12 f13 f20 f21 k f23 f24 f25 k (show 0 ≤ k ∧ k ≤ 121 from by omega) (show 0 ≤ f21 ∧ f21 ≤ 120 from by omega)) lk_X5_224 hP (va_recv hK.1 hP (ci := 5) (q0 := 0) rfl rfl) rfl rfl rfl (Rm.of rfl) rfl rfl dX5_token_51) ?_
          refine xu_b (P := 48 ≤ (bAt f9 f21 k) ∧ (bAt f9 f21 k) ≤ 57) (rS (rest := []) hx hb hml hown hts hK hl (c_X5_isDigit l g (bAt f9 f21 k) (show IR (bAt f9 f21 k) from ⟨by omega, by omega⟩)) lk_X5_230 trivial rfl rfl rfl (Rm.of rfl) rfl rfl dX5_token_54) (fun z30 => ?_) (fun z30 => ?_)
          · refine lv_istore_n (lv' := [(2, .int (iI 1)), (1, .int (iI 0)), (0, .ref (a 0))]) hx hb dX5_token_57 rfl hl (by decide) rfl (fun ls hl => ?_)
            refine lv_aload_n hx hb dX5_token_58 rfl (lv_at hl 2 rfl) ?_
            refine lv_aload_n hx hb dX5_token_59 rfl (lv_at hl 2 rfl) ?_
            refine xg_X5 hx hb hts hown hK hP 0 rfl 11 (by decide) fk_X5_221 (v := .int (iI k)) rfl dX5_token_60 ?_
            refine lv_aload_n hx hb dX5_token_63 rfl (lv_at hl 2 rfl) ?_
            refine xg_X5 hx hb hts hown hK hP 0 rfl 10 (by decide) fk_X5_206 (v := .int (iI f21)) rfl dX5_token_64 ?_
            refine xi_c_ge (tgt := 79) hx hb ⟨by omega, by omega⟩ ⟨by omega, by omega⟩ dX5_token_67 (by decide) (fun z31 => ?_) (fun z31 => ?_)
            · refine lv_aload_n hx hb dX5_token_79 rfl (lv_at hl 2 rfl) ?_
              refine xg_X5 hx hb hts hown hK hP 0 rfl 11 (by decide) fk_X5_221 (v := .int (iI k)) rfl dX5_token_80 ?_
              refine xp_X5 hx hb hts hown hK hP hD hS 0 rfl 12 (by decide) fk_X5_218 rfl (v := .int (iI k)) rfl rfl (Nat.le_of_ble_eq_true rfl) dX5_token_83 (fun H locs hP hD hS => ?_)
              have hP : va_P g.1 vwCl (wM g a f1 f2 f3 f4 f5 f6 f7 f8 f9 f10 f11 f12 f13 f20 f21 k k f24 f25) H := hP
              have hD : va_D (va_A (wM g a f1 f2 f3 f4 f5 f6 f7 f8 f9 f10 f11 f12 f13 f20 f21 f22 f23 f24 f25) s.heap.size) (wM g a f1 f2 f3 f4 f5 f6 f7 f8 f9 f10 f11 f12 f13 f20 f21 k k f24 f25) := hD
              have lp86 : ∀ (n86 : Nat) (j : Int) (n : Nat), (0 ≤ j ∧ j ≤ f21) → (rnW f9 f21 0 1 n j = tkE f9 f21 k) → (f21 - j < n) → (f21 - j).toNat < n86 → ∀ ls : Array Slot, lv_has ls 3 [(2, .int (iI 1)), (1, .int (iI 0)), (0, .ref (a 0))] → ∀ (H : Heap) (locs : List Loc), va_P g.1 vwCl (wM g a f1 f2 f3 f4 f5 f6 f7 f8 f9 f10 f11 f12 f13 f20 f21 k j f24 f25) H → va_D (va_A (wM g a f1 f2 f3 f4 f5 f6 f7 f8 f9 f10 f11 f12 f13 f20 f21 f22 f23 f24 f25) s.heap.size) (wM g a f1 f2 f3 f4 f5 f6 f7 f8 f9 f10 f11 f12 f13 f20 f21 k j f24 f25) → va_S (va_A (wM g a f1 f2 f3 f4 f5 f6 f7 f8 f9 f10 f11 f12 f13 f20 f21 f22 f23 f24 f25) s.heap.size) s.heap H locs → W pq l eq rm_X5_token s mq [.ref (a 0)].toArray below meth cq H locs 0 0 (MQ below (QMv g (fun _ : Unit => wM g a f1 f2 f3 f4 f5 f6 f7 f8 f9 f10 f11 f12 f13 f20 f21 (tkF f9 f21 f23) (tkE f9 f21 (tkF f9 f21 f23)) f24 f25) (fun _ => True) (va_A (wM g a f1 f2 f3 f4 f5 f6 f7 f8 f9 f10 f11 f12 f13 f20 f21 f22 f23 f24 f25) s.heap.size)) [.ref (a 0)].toArray s 0 0 (va_A (wM g a f1 f2 f3 f4 f5 f6 f7 f8 f9 f10 f11 f12 f13 f20 f21 f22 f23 f24 f25) s.heap.size)) (F0 mq 86 ls []) := by
                intro n86
                induction n86 with
                | zero => intro j n i86_1 i86_2 i86_3 hm; exact absurd hm (Nat.not_lt_zero _)
                | succ n86 ih86 =>
                  intro j n i86_1 i86_2 i86_3 hm86 ls hl H locs hP hD hS
                  have hb8 := hbb j
                  have hd8 := bAt_d f9 f21 j
                  refine lv_iload_n hx hb dX5_token_86 rfl (lv_at hl 1 rfl) ?_
                  refine xi_zt_eq (tgt := 104) hx hb ⟨by decide, by decide⟩ (by decide) dX5_token_87 (by decide) ?_
                  refine lv_iload_n hx hb dX5_token_104 rfl (lv_at hl 0 rfl) ?_
                  refine xi_zf_eq hx hb ⟨by decide, by decide⟩ (by decide) dX5_token_105 ⟨135, by decide⟩ ?_
                  refine lv_aload_n hx hb dX5_token_108 rfl (lv_at hl 2 rfl) ?_
                  refine lv_aload_n hx hb dX5_token_109 rfl (lv_at hl 2 rfl) ?_
                  refine xg_X5 hx hb hts hown hK hP 0 rfl 12 (by decide) fk_X5_218 (v := .int (iI j)) rfl dX5_token_110 ?_
                  refine xu_i (x := iI (bAt f9 f21 j)) (rV (rest := []) hx hb hml hown hts hK hl (c_X5_byteAt l g a f1 f2 f3 f4 f5 f6 f7 f8 f9 f10 f11 f12 f13 f20 f21 k j f24 f25 j (show 0 ≤ j ∧ j ≤ 121 from by omega) (show 0 ≤ f21 ∧ f21 ≤ 120 from by omega)) lk_X5_224 hP (va_recv hK.1 hP (ci := 5) (q0 := 0) rfl rfl) rfl rfl rfl (Rm.of rfl) rfl rfl dX5_token_113) ?_
                  refine xu_b (P := 48 ≤ (bAt f9 f21 j) ∧ (bAt f9 f21 j) ≤ 57) (rS (rest := []) hx hb hml hown hts hK hl (c_X5_isDigit l g (bAt f9 f21 j) (show IR (bAt f9 f21 j) from ⟨by omega, by omega⟩)) lk_X5_230 trivial rfl rfl rfl (Rm.of rfl) rfl rfl dX5_token_116) (fun z33 => ?_) (fun z33 => ?_)
                  · refine xi_zf_eq hx hb ⟨by decide, by decide⟩ (by decide) dX5_token_119 ⟨135, by decide⟩ ?_
                    refine lv_aload_n hx hb dX5_token_122 rfl (lv_at hl 2 rfl) ?_
                    refine lv_dup hx hb dX5_token_123 rfl ?_
                    refine xg_X5 hx hb hts hown hK hP 0 rfl 12 (by decide) fk_X5_218 (v := .int (iI j)) rfl dX5_token_124 ?_
                    refine lv_iconst (v := iI (1)) hx hb dX5_token_127 (by decide) ?_
                    refine xi_add hx hb dX5_token_128 ?_
                    refine xp_X5 hx hb hts hown hK hP hD hS 0 rfl 12 (by decide) fk_X5_218 rfl (v := .int (iI (j + 1))) rfl rfl (Nat.le_of_ble_eq_true rfl) dX5_token_129 (fun H locs hP hD hS => ?_)
                    have hP : va_P g.1 vwCl (wM g a f1 f2 f3 f4 f5 f6 f7 f8 f9 f10 f11 f12 f13 f20 f21 k (j + 1) f24 f25) H := hP
                    have hD : va_D (va_A (wM g a f1 f2 f3 f4 f5 f6 f7 f8 f9 f10 f11 f12 f13 f20 f21 f22 f23 f24 f25) s.heap.size) (wM g a f1 f2 f3 f4 f5 f6 f7 f8 f9 f10 f11 f12 f13 f20 f21 k (j + 1) f24 f25) := hD
                    refine lv_goto (tgt := 86) hx hb dX5_token_132 (by decide) ?_
                    exact ih86 (j + 1) (n - 1) ⟨by omega, by omega⟩ (by rw [rnW_step (by first | exact Or.inl ⟨rfl, (isL_i _).mpr (by assumption)⟩ | exact Or.inr ⟨by omega, rfl, (isD_i _).mpr (by assumption)⟩) (by omega)]; exact i86_2) (by omega) (by omega) ls (lv_sub hl [0, 1, 2] rfl) H locs hP hD hS
                  · refine xi_zt_eq (tgt := 135) hx hb ⟨by decide, by decide⟩ (by decide) dX5_token_119 (by decide) ?_
                    have he34 : k = (tkF f9 f21 f23) := hk
                    have hP := Eq.mp (congrArg (fun z9 => va_P g.1 vwCl (wM g a f1 f2 f3 f4 f5 f6 f7 f8 f9 f10 f11 f12 f13 f20 f21 z9 j f24 f25) H) he34) hP
                    have hD := Eq.mp (congrArg (fun z9 => va_D (va_A (wM g a f1 f2 f3 f4 f5 f6 f7 f8 f9 f10 f11 f12 f13 f20 f21 f22 f23 f24 f25) s.heap.size) (wM g a f1 f2 f3 f4 f5 f6 f7 f8 f9 f10 f11 f12 f13 f20 f21 z9 j f24 f25)) he34) hD
                    have he35 : j = (tkE f9 f21 (tkF f9 f21 f23)) := by rw [← hk, ← i86_2]; exact (rnW_stop (fun _ => by rw [isL_i]; omega) (fun _ _ => by rw [isD_i]; omega) n).symm
                    have hP := Eq.mp (congrArg (fun z9 => va_P g.1 vwCl (wM g a f1 f2 f3 f4 f5 f6 f7 f8 f9 f10 f11 f12 f13 f20 f21 (tkF f9 f21 f23) z9 f24 f25) H) he35) hP
                    have hD := Eq.mp (congrArg (fun z9 => va_D (va_A (wM g a f1 f2 f3 f4 f5 f6 f7 f8 f9 f10 f11 f12 f13 f20 f21 f22 f23 f24 f25) s.heap.size) (wM g a f1 f2 f3 f4 f5 f6 f7 f8 f9 f10 f11 f12 f13 f20 f21 (tkF f9 f21 f23) z9 f24 f25)) he35) hD
                    have hP : va_P g.1 vwCl (wM g a f1 f2 f3 f4 f5 f6 f7 f8 f9 f10 f11 f12 f13 f20 f21 (tkF f9 f21 f23) (tkE f9 f21 (tkF f9 f21 f23)) f24 f25) H := hP
                    have hD : va_D (va_A (wM g a f1 f2 f3 f4 f5 f6 f7 f8 f9 f10 f11 f12 f13 f20 f21 f22 f23 f24 f25) s.heap.size) (wM g a f1 f2 f3 f4 f5 f6 f7 f8 f9 f10 f11 f12 f13 f20 f21 (tkF f9 f21 f23) (tkE f9 f21 (tkF f9 f21 f23)) f24 f25) := hD
                    exact W.vret hx hb hr (fun t ht hW => ⟨⟨(), rfl, trivial, by rw [ht]; exact hP, hD⟩, hS.F ht⟩) hS.2.2 dX5_token_135
              exact lp86 (120 + 1) k 121 (by omega) (by first | exact tk_in (by omega) (by rw [isL_i]; omega) (by rw [isD_i]; omega) | exact tk_out (by omega) rfl rfl | (exfalso; omega)) (by omega) (by omega) ls (lv_sub hl [0, 1, 2] rfl) H locs hP hD hS
            · refine lv_aload_n hx hb dX5_token_70 rfl (lv_at hl 2 rfl) ?_
              refine xg_X5 hx hb hts hown hK hP 0 rfl 11 (by decide) fk_X5_221 (v := .int (iI k)) rfl dX5_token_71 ?_
              refine lv_iconst (v := iI (1)) hx hb dX5_token_74 (by decide) ?_
              refine xi_add hx hb dX5_token_75 ?_
              refine lv_goto (tgt := 83) hx hb dX5_token_76 (by decide) ?_
              refine xp_X5 hx hb hts hown hK hP hD hS 0 rfl 12 (by decide) fk_X5_218 rfl (v := .int (iI (k + 1))) rfl rfl (Nat.le_of_ble_eq_true rfl) dX5_token_83 (fun H locs hP hD hS => ?_)
              have hP : va_P g.1 vwCl (wM g a f1 f2 f3 f4 f5 f6 f7 f8 f9 f10 f11 f12 f13 f20 f21 k (k + 1) f24 f25) H := hP
              have hD : va_D (va_A (wM g a f1 f2 f3 f4 f5 f6 f7 f8 f9 f10 f11 f12 f13 f20 f21 f22 f23 f24 f25) s.heap.size) (wM g a f1 f2 f3 f4 f5 f6 f7 f8 f9 f10 f11 f12 f13 f20 f21 k (k + 1) f24 f25) := hD
              have lp86 : ∀ (n86 : Nat) (j : Int) (n : Nat), (0 ≤ j ∧ j ≤ f21) → (rnW f9 f21 0 1 n j = tkE f9 f21 k) → (f21 - j < n) → (f21 - j).toNat < n86 → ∀ ls : Array Slot, lv_has ls 3 [(2, .int (iI 1)), (1, .int (iI 0)), (0, .ref (a 0))] → ∀ (H : Heap) (locs : List Loc), va_P g.1 vwCl (wM g a f1 f2 f3 f4 f5 f6 f7 f8 f9 f10 f11 f12 f13 f20 f21 k j f24 f25) H → va_D (va_A (wM g a f1 f2 f3 f4 f5 f6 f7 f8 f9 f10 f11 f12 f13 f20 f21 f22 f23 f24 f25) s.heap.size) (wM g a f1 f2 f3 f4 f5 f6 f7 f8 f9 f10 f11 f12 f13 f20 f21 k j f24 f25) → va_S (va_A (wM g a f1 f2 f3 f4 f5 f6 f7 f8 f9 f10 f11 f12 f13 f20 f21 f22 f23 f24 f25) s.heap.size) s.heap H locs → W pq l eq rm_X5_token s mq [.ref (a 0)].toArray below meth cq H locs 0 0 (MQ below (QMv g (fun _ : Unit => wM g a f1 f2 f3 f4 f5 f6 f7 f8 f9 f10 f11 f12 f13 f20 f21 (tkF f9 f21 f23) (tkE f9 f21 (tkF f9 f21 f23)) f24 f25) (fun _ => True) (va_A (wM g a f1 f2 f3 f4 f5 f6 f7 f8 f9 f10 f11 f12 f13 f20 f21 f22 f23 f24 f25) s.heap.size)) [.ref (a 0)].toArray s 0 0 (va_A (wM g a f1 f2 f3 f4 f5 f6 f7 f8 f9 f10 f11 f12 f13 f20 f21 f22 f23 f24 f25) s.heap.size)) (F0 mq 86 ls []) := by
                intro n86
                induction n86 with
                | zero => intro j n i86_1 i86_2 i86_3 hm; exact absurd hm (Nat.not_lt_zero _)
                | succ n86 ih86 =>
                  intro j n i86_1 i86_2 i86_3 hm86 ls hl H locs hP hD hS
                  have hb8 := hbb j
                  have hd8 := bAt_d f9 f21 j
                  refine lv_iload_n hx hb dX5_token_86 rfl (lv_at hl 1 rfl) ?_
                  refine xi_zt_eq (tgt := 104) hx hb ⟨by decide, by decide⟩ (by decide) dX5_token_87 (by decide) ?_
                  refine lv_iload_n hx hb dX5_token_104 rfl (lv_at hl 0 rfl) ?_
                  refine xi_zf_eq hx hb ⟨by decide, by decide⟩ (by decide) dX5_token_105 ⟨135, by decide⟩ ?_
                  refine lv_aload_n hx hb dX5_token_108 rfl (lv_at hl 2 rfl) ?_
                  refine lv_aload_n hx hb dX5_token_109 rfl (lv_at hl 2 rfl) ?_
                  refine xg_X5 hx hb hts hown hK hP 0 rfl 12 (by decide) fk_X5_218 (v := .int (iI j)) rfl dX5_token_110 ?_
                  refine xu_i (x := iI (bAt f9 f21 j)) (rV (rest := []) hx hb hml hown hts hK hl (c_X5_byteAt l g a f1 f2 f3 f4 f5 f6 f7 f8 f9 f10 f11 f12 f13 f20 f21 k j f24 f25 j (show 0 ≤ j ∧ j ≤ 121 from by omega) (show 0 ≤ f21 ∧ f21 ≤ 120 from by omega)) lk_X5_224 hP (va_recv hK.1 hP (ci := 5) (q0 := 0) rfl rfl) rfl rfl rfl (Rm.of rfl) rfl rfl dX5_token_113) ?_
                  refine xu_b (P := 48 ≤ (bAt f9 f21 j) ∧ (bAt f9 f21 j) ≤ 57) (rS (rest := []) hx hb hml hown hts hK hl (c_X5_isDigit l g (bAt f9 f21 j) (show IR (bAt f9 f21 j) from ⟨by omega, by omega⟩)) lk_X5_230 trivial rfl rfl rfl (Rm.of rfl) rfl rfl dX5_token_116) (fun z37 => ?_) (fun z37 => ?_)
                  · refine xi_zf_eq hx hb ⟨by decide, by decide⟩ (by decide) dX5_token_119 ⟨135, by decide⟩ ?_
                    refine lv_aload_n hx hb dX5_token_122 rfl (lv_at hl 2 rfl) ?_
                    refine lv_dup hx hb dX5_token_123 rfl ?_
                    refine xg_X5 hx hb hts hown hK hP 0 rfl 12 (by decide) fk_X5_218 (v := .int (iI j)) rfl dX5_token_124 ?_
                    refine lv_iconst (v := iI (1)) hx hb dX5_token_127 (by decide) ?_
                    refine xi_add hx hb dX5_token_128 ?_
                    refine xp_X5 hx hb hts hown hK hP hD hS 0 rfl 12 (by decide) fk_X5_218 rfl (v := .int (iI (j + 1))) rfl rfl (Nat.le_of_ble_eq_true rfl) dX5_token_129 (fun H locs hP hD hS => ?_)
                    have hP : va_P g.1 vwCl (wM g a f1 f2 f3 f4 f5 f6 f7 f8 f9 f10 f11 f12 f13 f20 f21 k (j + 1) f24 f25) H := hP
                    have hD : va_D (va_A (wM g a f1 f2 f3 f4 f5 f6 f7 f8 f9 f10 f11 f12 f13 f20 f21 f22 f23 f24 f25) s.heap.size) (wM g a f1 f2 f3 f4 f5 f6 f7 f8 f9 f10 f11 f12 f13 f20 f21 k (j + 1) f24 f25) := hD
                    refine lv_goto (tgt := 86) hx hb dX5_token_132 (by decide) ?_
                    exact ih86 (j + 1) (n - 1) ⟨by omega, by omega⟩ (by rw [rnW_step (by first | exact Or.inl ⟨rfl, (isL_i _).mpr (by assumption)⟩ | exact Or.inr ⟨by omega, rfl, (isD_i _).mpr (by assumption)⟩) (by omega)]; exact i86_2) (by omega) (by omega) ls (lv_sub hl [0, 1, 2] rfl) H locs hP hD hS
                  · refine xi_zt_eq (tgt := 135) hx hb ⟨by decide, by decide⟩ (by decide) dX5_token_119 (by decide) ?_
                    have he38 : k = (tkF f9 f21 f23) := hk
                    have hP := Eq.mp (congrArg (fun z9 => va_P g.1 vwCl (wM g a f1 f2 f3 f4 f5 f6 f7 f8 f9 f10 f11 f12 f13 f20 f21 z9 j f24 f25) H) he38) hP
                    have hD := Eq.mp (congrArg (fun z9 => va_D (va_A (wM g a f1 f2 f3 f4 f5 f6 f7 f8 f9 f10 f11 f12 f13 f20 f21 f22 f23 f24 f25) s.heap.size) (wM g a f1 f2 f3 f4 f5 f6 f7 f8 f9 f10 f11 f12 f13 f20 f21 z9 j f24 f25)) he38) hD
                    have he39 : j = (tkE f9 f21 (tkF f9 f21 f23)) := by rw [← hk, ← i86_2]; exact (rnW_stop (fun _ => by rw [isL_i]; omega) (fun _ _ => by rw [isD_i]; omega) n).symm
                    have hP := Eq.mp (congrArg (fun z9 => va_P g.1 vwCl (wM g a f1 f2 f3 f4 f5 f6 f7 f8 f9 f10 f11 f12 f13 f20 f21 (tkF f9 f21 f23) z9 f24 f25) H) he39) hP
                    have hD := Eq.mp (congrArg (fun z9 => va_D (va_A (wM g a f1 f2 f3 f4 f5 f6 f7 f8 f9 f10 f11 f12 f13 f20 f21 f22 f23 f24 f25) s.heap.size) (wM g a f1 f2 f3 f4 f5 f6 f7 f8 f9 f10 f11 f12 f13 f20 f21 (tkF f9 f21 f23) z9 f24 f25)) he39) hD
                    have hP : va_P g.1 vwCl (wM g a f1 f2 f3 f4 f5 f6 f7 f8 f9 f10 f11 f12 f13 f20 f21 (tkF f9 f21 f23) (tkE f9 f21 (tkF f9 f21 f23)) f24 f25) H := hP
                    have hD : va_D (va_A (wM g a f1 f2 f3 f4 f5 f6 f7 f8 f9 f10 f11 f12 f13 f20 f21 f22 f23 f24 f25) s.heap.size) (wM g a f1 f2 f3 f4 f5 f6 f7 f8 f9 f10 f11 f12 f13 f20 f21 (tkF f9 f21 f23) (tkE f9 f21 (tkF f9 f21 f23)) f24 f25) := hD
                    exact W.vret hx hb hr (fun t ht hW => ⟨⟨(), rfl, trivial, by rw [ht]; exact hP, hD⟩, hS.F ht⟩) hS.2.2 dX5_token_135
              exact lp86 (120 + 1) (k + 1) 121 (by omega) (by first | exact tk_in (by omega) (by rw [isL_i]; omega) (by rw [isD_i]; omega) | exact tk_out (by omega) rfl rfl | (exfalso; omega)) (by omega) (by omega) ls (lv_sub hl [0, 1, 2] rfl) H locs hP hD hS
          · refine lv_istore_n (lv' := [(2, .int (iI 0)), (1, .int (iI 0)), (0, .ref (a 0))]) hx hb dX5_token_57 rfl hl (by decide) rfl (fun ls hl => ?_)
            refine lv_aload_n hx hb dX5_token_58 rfl (lv_at hl 2 rfl) ?_
            refine lv_aload_n hx hb dX5_token_59 rfl (lv_at hl 2 rfl) ?_
            refine xg_X5 hx hb hts hown hK hP 0 rfl 11 (by decide) fk_X5_221 (v := .int (iI k)) rfl dX5_token_60 ?_
            refine lv_aload_n hx hb dX5_token_63 rfl (lv_at hl 2 rfl) ?_
            refine xg_X5 hx hb hts hown hK hP 0 rfl 10 (by decide) fk_X5_206 (v := .int (iI f21)) rfl dX5_token_64 ?_
            refine xi_c_ge (tgt := 79) hx hb ⟨by omega, by omega⟩ ⟨by omega, by omega⟩ dX5_token_67 (by decide) (fun z40 => ?_) (fun z40 => ?_)
            · refine lv_aload_n hx hb dX5_token_79 rfl (lv_at hl 2 rfl) ?_
              refine xg_X5 hx hb hts hown hK hP 0 rfl 11 (by decide) fk_X5_221 (v := .int (iI k)) rfl dX5_token_80 ?_
              refine xp_X5 hx hb hts hown hK hP hD hS 0 rfl 12 (by decide) fk_X5_218 rfl (v := .int (iI k)) rfl rfl (Nat.le_of_ble_eq_true rfl) dX5_token_83 (fun H locs hP hD hS => ?_)
              have hP : va_P g.1 vwCl (wM g a f1 f2 f3 f4 f5 f6 f7 f8 f9 f10 f11 f12 f13 f20 f21 k k f24 f25) H := hP
              have hD : va_D (va_A (wM g a f1 f2 f3 f4 f5 f6 f7 f8 f9 f10 f11 f12 f13 f20 f21 f22 f23 f24 f25) s.heap.size) (wM g a f1 f2 f3 f4 f5 f6 f7 f8 f9 f10 f11 f12 f13 f20 f21 k k f24 f25) := hD
              have lp86 : ∀ (n86 : Nat) (j : Int) (n : Nat), (0 ≤ j ∧ j ≤ f21) → (rnW f9 f21 0 0 n j = tkE f9 f21 k) → (f21 - j < n) → (f21 - j).toNat < n86 → ∀ ls : Array Slot, lv_has ls 3 [(2, .int (iI 0)), (1, .int (iI 0)), (0, .ref (a 0))] → ∀ (H : Heap) (locs : List Loc), va_P g.1 vwCl (wM g a f1 f2 f3 f4 f5 f6 f7 f8 f9 f10 f11 f12 f13 f20 f21 k j f24 f25) H → va_D (va_A (wM g a f1 f2 f3 f4 f5 f6 f7 f8 f9 f10 f11 f12 f13 f20 f21 f22 f23 f24 f25) s.heap.size) (wM g a f1 f2 f3 f4 f5 f6 f7 f8 f9 f10 f11 f12 f13 f20 f21 k j f24 f25) → va_S (va_A (wM g a f1 f2 f3 f4 f5 f6 f7 f8 f9 f10 f11 f12 f13 f20 f21 f22 f23 f24 f25) s.heap.size) s.heap H locs → W pq l eq rm_X5_token s mq [.ref (a 0)].toArray below meth cq H locs 0 0 (MQ below (QMv g (fun _ : Unit => wM g a f1 f2 f3 f4 f5 f6 f7 f8 f9 f10 f11 f12 f13 f20 f21 (tkF f9 f21 f23) (tkE f9 f21 (tkF f9 f21 f23)) f24 f25) (fun _ => True) (va_A (wM g a f1 f2 f3 f4 f5 f6 f7 f8 f9 f10 f11 f12 f13 f20 f21 f22 f23 f24 f25) s.heap.size)) [.ref (a 0)].toArray s 0 0 (va_A (wM g a f1 f2 f3 f4 f5 f6 f7 f8 f9 f10 f11 f12 f13 f20 f21 f22 f23 f24 f25) s.heap.size)) (F0 mq 86 ls []) := by
                intro n86
                induction n86 with
                | zero => intro j n i86_1 i86_2 i86_3 hm; exact absurd hm (Nat.not_lt_zero _)
                | succ n86 ih86 =>
                  intro j n i86_1 i86_2 i86_3 hm86 ls hl H locs hP hD hS
                  have hb8 := hbb j
                  have hd8 := bAt_d f9 f21 j
                  refine lv_iload_n hx hb dX5_token_86 rfl (lv_at hl 1 rfl) ?_
                  refine xi_zt_eq (tgt := 104) hx hb ⟨by decide, by decide⟩ (by decide) dX5_token_87 (by decide) ?_
                  refine lv_iload_n hx hb dX5_token_104 rfl (lv_at hl 0 rfl) ?_
                  refine xi_zt_eq (tgt := 135) hx hb ⟨by decide, by decide⟩ (by decide) dX5_token_105 (by decide) ?_
                  have he41 : k = (tkF f9 f21 f23) := hk
                  have hP := Eq.mp (congrArg (fun z9 => va_P g.1 vwCl (wM g a f1 f2 f3 f4 f5 f6 f7 f8 f9 f10 f11 f12 f13 f20 f21 z9 j f24 f25) H) he41) hP
                  have hD := Eq.mp (congrArg (fun z9 => va_D (va_A (wM g a f1 f2 f3 f4 f5 f6 f7 f8 f9 f10 f11 f12 f13 f20 f21 f22 f23 f24 f25) s.heap.size) (wM g a f1 f2 f3 f4 f5 f6 f7 f8 f9 f10 f11 f12 f13 f20 f21 z9 j f24 f25)) he41) hD
                  have he42 : j = (tkE f9 f21 (tkF f9 f21 f23)) := by rw [← hk, ← i86_2]; exact (rnW_stop (fun _ => by rw [isL_i]; omega) (fun _ _ => by rw [isD_i]; omega) n).symm
                  have hP := Eq.mp (congrArg (fun z9 => va_P g.1 vwCl (wM g a f1 f2 f3 f4 f5 f6 f7 f8 f9 f10 f11 f12 f13 f20 f21 (tkF f9 f21 f23) z9 f24 f25) H) he42) hP
                  have hD := Eq.mp (congrArg (fun z9 => va_D (va_A (wM g a f1 f2 f3 f4 f5 f6 f7 f8 f9 f10 f11 f12 f13 f20 f21 f22 f23 f24 f25) s.heap.size) (wM g a f1 f2 f3 f4 f5 f6 f7 f8 f9 f10 f11 f12 f13 f20 f21 (tkF f9 f21 f23) z9 f24 f25)) he42) hD
                  have hP : va_P g.1 vwCl (wM g a f1 f2 f3 f4 f5 f6 f7 f8 f9 f10 f11 f12 f13 f20 f21 (tkF f9 f21 f23) (tkE f9 f21 (tkF f9 f21 f23)) f24 f25) H := hP
                  have hD : va_D (va_A (wM g a f1 f2 f3 f4 f5 f6 f7 f8 f9 f10 f11 f12 f13 f20 f21 f22 f23 f24 f25) s.heap.size) (wM g a f1 f2 f3 f4 f5 f6 f7 f8 f9 f10 f11 f12 f13 f20 f21 (tkF f9 f21 f23) (tkE f9 f21 (tkF f9 f21 f23)) f24 f25) := hD
                  exact W.vret hx hb hr (fun t ht hW => ⟨⟨(), rfl, trivial, by rw [ht]; exact hP, hD⟩, hS.F ht⟩) hS.2.2 dX5_token_135
              exact lp86 (120 + 1) k 121 (by omega) (by first | exact tk_in (by omega) (by rw [isL_i]; omega) (by rw [isD_i]; omega) | exact tk_out (by omega) rfl rfl | (exfalso; omega)) (by omega) (by omega) ls (lv_sub hl [0, 1, 2] rfl) H locs hP hD hS
            · refine lv_aload_n hx hb dX5_token_70 rfl (lv_at hl 2 rfl) ?_
              refine xg_X5 hx hb hts hown hK hP 0 rfl 11 (by decide) fk_X5_221 (v := .int (iI k)) rfl dX5_token_71 ?_
              refine lv_iconst (v := iI (1)) hx hb dX5_token_74 (by decide) ?_
              refine xi_add hx hb dX5_token_75 ?_
              refine lv_goto (tgt := 83) hx hb dX5_token_76 (by decide) ?_
              refine xp_X5 hx hb hts hown hK hP hD hS 0 rfl 12 (by decide) fk_X5_218 rfl (v := .int (iI (k + 1))) rfl rfl (Nat.le_of_ble_eq_true rfl) dX5_token_83 (fun H locs hP hD hS => ?_)
              have hP : va_P g.1 vwCl (wM g a f1 f2 f3 f4 f5 f6 f7 f8 f9 f10 f11 f12 f13 f20 f21 k (k + 1) f24 f25) H := hP
              have hD : va_D (va_A (wM g a f1 f2 f3 f4 f5 f6 f7 f8 f9 f10 f11 f12 f13 f20 f21 f22 f23 f24 f25) s.heap.size) (wM g a f1 f2 f3 f4 f5 f6 f7 f8 f9 f10 f11 f12 f13 f20 f21 k (k + 1) f24 f25) := hD
              have lp86 : ∀ (n86 : Nat) (j : Int) (n : Nat), (0 ≤ j ∧ j ≤ f21) → (rnW f9 f21 0 0 n j = tkE f9 f21 k) → (f21 - j < n) → (f21 - j).toNat < n86 → ∀ ls : Array Slot, lv_has ls 3 [(2, .int (iI 0)), (1, .int (iI 0)), (0, .ref (a 0))] → ∀ (H : Heap) (locs : List Loc), va_P g.1 vwCl (wM g a f1 f2 f3 f4 f5 f6 f7 f8 f9 f10 f11 f12 f13 f20 f21 k j f24 f25) H → va_D (va_A (wM g a f1 f2 f3 f4 f5 f6 f7 f8 f9 f10 f11 f12 f13 f20 f21 f22 f23 f24 f25) s.heap.size) (wM g a f1 f2 f3 f4 f5 f6 f7 f8 f9 f10 f11 f12 f13 f20 f21 k j f24 f25) → va_S (va_A (wM g a f1 f2 f3 f4 f5 f6 f7 f8 f9 f10 f11 f12 f13 f20 f21 f22 f23 f24 f25) s.heap.size) s.heap H locs → W pq l eq rm_X5_token s mq [.ref (a 0)].toArray below meth cq H locs 0 0 (MQ below (QMv g (fun _ : Unit => wM g a f1 f2 f3 f4 f5 f6 f7 f8 f9 f10 f11 f12 f13 f20 f21 (tkF f9 f21 f23) (tkE f9 f21 (tkF f9 f21 f23)) f24 f25) (fun _ => True) (va_A (wM g a f1 f2 f3 f4 f5 f6 f7 f8 f9 f10 f11 f12 f13 f20 f21 f22 f23 f24 f25) s.heap.size)) [.ref (a 0)].toArray s 0 0 (va_A (wM g a f1 f2 f3 f4 f5 f6 f7 f8 f9 f10 f11 f12 f13 f20 f21 f22 f23 f24 f25) s.heap.size)) (F0 mq 86 ls []) := by
                intro n86
                induction n86 with
                | zero => intro j n i86_1 i86_2 i86_3 hm; exact absurd hm (Nat.not_lt_zero _)
                | succ n86 ih86 =>
                  intro j n i86_1 i86_2 i86_3 hm86 ls hl H locs hP hD hS
                  have hb8 := hbb j
                  have hd8 := bAt_d f9 f21 j
                  refine lv_iload_n hx hb dX5_token_86 rfl (lv_at hl 1 rfl) ?_
                  refine xi_zt_eq (tgt := 104) hx hb ⟨by decide, by decide⟩ (by decide) dX5_token_87 (by decide) ?_
                  refine lv_iload_n hx hb dX5_token_104 rfl (lv_at hl 0 rfl) ?_
                  refine xi_zt_eq (tgt := 135) hx hb ⟨by decide, by decide⟩ (by decide) dX5_token_105 (by decide) ?_
                  have he43 : k = (tkF f9 f21 f23) := hk
                  have hP := Eq.mp (congrArg (fun z9 => va_P g.1 vwCl (wM g a f1 f2 f3 f4 f5 f6 f7 f8 f9 f10 f11 f12 f13 f20 f21 z9 j f24 f25) H) he43) hP
                  have hD := Eq.mp (congrArg (fun z9 => va_D (va_A (wM g a f1 f2 f3 f4 f5 f6 f7 f8 f9 f10 f11 f12 f13 f20 f21 f22 f23 f24 f25) s.heap.size) (wM g a f1 f2 f3 f4 f5 f6 f7 f8 f9 f10 f11 f12 f13 f20 f21 z9 j f24 f25)) he43) hD
                  have he44 : j = (tkE f9 f21 (tkF f9 f21 f23)) := by rw [← hk, ← i86_2]; exact (rnW_stop (fun _ => by rw [isL_i]; omega) (fun _ _ => by rw [isD_i]; omega) n).symm
                  have hP := Eq.mp (congrArg (fun z9 => va_P g.1 vwCl (wM g a f1 f2 f3 f4 f5 f6 f7 f8 f9 f10 f11 f12 f13 f20 f21 (tkF f9 f21 f23) z9 f24 f25) H) he44) hP
                  have hD := Eq.mp (congrArg (fun z9 => va_D (va_A (wM g a f1 f2 f3 f4 f5 f6 f7 f8 f9 f10 f11 f12 f13 f20 f21 f22 f23 f24 f25) s.heap.size) (wM g a f1 f2 f3 f4 f5 f6 f7 f8 f9 f10 f11 f12 f13 f20 f21 (tkF f9 f21 f23) z9 f24 f25)) he44) hD
                  have hP : va_P g.1 vwCl (wM g a f1 f2 f3 f4 f5 f6 f7 f8 f9 f10 f11 f12 f13 f20 f21 (tkF f9 f21 f23) (tkE f9 f21 (tkF f9 f21 f23)) f24 f25) H := hP
                  have hD : va_D (va_A (wM g a f1 f2 f3 f4 f5 f6 f7 f8 f9 f10 f11 f12 f13 f20 f21 f22 f23 f24 f25) s.heap.size) (wM g a f1 f2 f3 f4 f5 f6 f7 f8 f9 f10 f11 f12 f13 f20 f21 (tkF f9 f21 f23) (tkE f9 f21 (tkF f9 f21 f23)) f24 f25) := hD
                  exact W.vret hx hb hr (fun t ht hW => ⟨⟨(), rfl, trivial, by rw [ht]; exact hP, hD⟩, hS.F ht⟩) hS.2.2 dX5_token_135
              exact lp86 (120 + 1) (k + 1) 121 (by omega) (by first | exact tk_in (by omega) (by rw [isL_i]; omega) (by rw [isD_i]; omega) | exact tk_out (by omega) rfl rfl | (exfalso; omega)) (by omega) (by omega) ls (lv_sub hl [0, 1, 2] rfl) H locs hP hD hS
      · refine lv_aload_n hx hb dX5_token_21 rfl (lv_at hl 0 rfl) ?_
        refine lv_dup hx hb dX5_token_22 rfl ?_
        refine xg_X5 hx hb hts hown hK hP 0 rfl 11 (by decide) fk_X5_221 (v := .int (iI k)) rfl dX5_token_23 ?_
        refine lv_iconst (v := iI (1)) hx hb dX5_token_26 (by decide) ?_
        refine xi_add hx hb dX5_token_27 ?_
        refine xp_X5 hx hb hts hown hK hP hD hS 0 rfl 11 (by decide) fk_X5_221 rfl (v := .int (iI (k + 1))) rfl rfl (Nat.le_of_ble_eq_true rfl) dX5_token_28 (fun H locs hP hD hS => ?_)
        have hP : va_P g.1 vwCl (wM g a f1 f2 f3 f4 f5 f6 f7 f8 f9 f10 f11 f12 f13 f20 f21 (k + 1) f23 f24 f25) H := hP
        have hD : va_D (va_A (wM g a f1 f2 f3 f4 f5 f6 f7 f8 f9 f10 f11 f12 f13 f20 f21 f22 f23 f24 f25) s.heap.size) (wM g a f1 f2 f3 f4 f5 f6 f7 f8 f9 f10 f11 f12 f13 f20 f21 (k + 1) f23 f24 f25) := hD
        refine lv_goto (tgt := 8) hx hb dX5_token_31 (by decide) ?_
        exact ih8 (k + 1) (m - 1) ⟨by omega, by omega⟩ (by rw [skT_step (by assumption) (by omega)]; exact i8_2) (by omega) (by omega) ls (lv_sub hl [0] rfl) H locs hP hD hS
  exact lp8 (120 + 1) f23 121 (by omega) rfl (by omega) (by omega) ls (lv_sub hl [0] rfl) H locs hP hD hS
abbrev rm_X5_wants : Room := { frames := 3, cells := 0, slots := 0, locals := 67 }
set_option maxRecDepth 100000 in
set_option maxHeartbeats 4000000 in
theorem c_X5_wants (l : Launch) (g : Gd) (a : Nat → Nat) (f1 : Int → Int) (f2 : Int → Int) (f3 : Int → Int) (f4 : Int → Int) (f5 : Int → Int) (f6 : Int → Int) (f7 : Int → Int) (f8 : Int → Int) (f9 : Int → Int) (f10 : Int → Int) (f11 : Int → Int) (f12 : Int → Int) (f13 : Int → Int) (f20 : Int) (f21 : Int) (f22 : Int) (f23 : Int) (f24 : Int) (f25 : Int) (x : Int) (sz : Nat) (h1 : ∀ j, 0 ≤ f9 j ∧ f9 j ≤ 255) (h2 : 0 ≤ f21 ∧ f21 ≤ 120) (h3 : 0 ≤ f23 ∧ f23 ≤ f21) (h4 : f25 = 0 ∨ f25 = 1) (h5 : x = 0 ∨ x = 1) : Met l yX5_wants (wsOf yX5_wants cX5_wants 2 none) rm_X5_wants (PX g (wP g (wM g a f1 f2 f3 f4 f5 f6 f7 f8 f9 f10 f11 f12 f13 f20 f21 f22 f23 f24 f25) sz) [.ref (a 0), .int (iI x)]) (QMv g (fun u9 : Nat → Int → Int => wM g a f1 f2 f3 f4 f5 f6 f7 f8 f9 f10 f11 f12 f13 f20 f21 (u9 22 0) (u9 23 0) f24 (u9 25 0)) (fun u9 => ((u9 25 0, u9 22 0, u9 23 0, f24) : Q4) = wantQ f9 f21 (f25, f22, f23, f24) x) (va_A (wM g a f1 f2 f3 f4 f5 f6 f7 f8 f9 f10 f11 f12 f13 f20 f21 f22 f23 f24 f25) sz)) 0 0 (va_A (wM g a f1 f2 f3 f4 f5 f6 f7 f8 f9 f10 f11 f12 f13 f20 f21 f22 f23 f24 f25) sz) := by
  refine me (g := g) (by decide) rfl ?_
  intro pq eq s mq below meth cq C hnm hB ls hl
  obtain ⟨hx, hb, hr, hml, hown, hts, hlocks, hK⟩ := C
  have hown : s.vm.findClass RX5 = some mq.cls := hown
  have hl : lv_has ls 2 [(0, .ref (a 0)), (1, .int (iI x))] := hl
  obtain ⟨hsz, hP, hD0⟩ := hB
  subst hsz
  have hD := hD0.self (sz := s.heap.size)
  have hA : ∀ q : Nat, s.heap.size ≤ q → va_A (wM g a f1 f2 f3 f4 f5 f6 f7 f8 f9 f10 f11 f12 f13 f20 f21 f22 f23 f24 f25) s.heap.size q := fun q h => Or.inr h
  have hS : va_S (va_A (wM g a f1 f2 f3 f4 f5 f6 f7 f8 f9 f10 f11 f12 f13 f20 f21 f22 f23 f24 f25) s.heap.size) s.heap s.heap [] := va_S.rf
  refine lv_aload_n hx hb dX5_wants_0 rfl (lv_at hl 0 rfl) ?_
  refine lv_aload_n hx hb dX5_wants_1 rfl (lv_at hl 0 rfl) ?_
  refine xg_X5 hx hb hts hown hK hP 0 rfl 14 (by decide) fk_X5_233 (v := .int (iI f25)) rfl dX5_wants_2 ?_
  refine xi_z_ne (tgt := 12) hx hb ⟨by omega, by omega⟩ dX5_wants_5 (by decide) (fun z1 => ?_) (fun z1 => ?_)
  · refine lv_iconst (v := iI (1)) hx hb dX5_wants_12 (by decide) ?_
    refine lv_goto (tgt := 17) hx hb dX5_wants_13 (by decide) ?_
    refine xp_X5 hx hb hts hown hK hP hD hS 0 rfl 14 (by decide) fk_X5_233 rfl (v := .int (iI 1)) rfl rfl (Nat.le_of_ble_eq_true rfl) dX5_wants_17 (fun H locs hP hD hS => ?_)
    have hP : va_P g.1 vwCl (wM g a f1 f2 f3 f4 f5 f6 f7 f8 f9 f10 f11 f12 f13 f20 f21 f22 f23 f24 1) H := hP
    have hD : va_D (va_A (wM g a f1 f2 f3 f4 f5 f6 f7 f8 f9 f10 f11 f12 f13 f20 f21 f22 f23 f24 f25) s.heap.size) (wM g a f1 f2 f3 f4 f5 f6 f7 f8 f9 f10 f11 f12 f13 f20 f21 f22 f23 f24 1) := hD
    refine lv_aload_n hx hb dX5_wants_20 rfl (lv_at hl 0 rfl) ?_
    refine xg_X5 hx hb hts hown hK hP 0 rfl 14 (by decide) fk_X5_233 (v := .int (iI 1)) rfl dX5_wants_21 ?_
    refine xi_zt_ne (tgt := 31) hx hb ⟨by decide, by decide⟩ (by decide) dX5_wants_24 (by decide) ?_
    have hj : ((1, f22, f23, f24) : Q4) = wantQ f9 f21 (f25, f22, f23, f24) x := by unfold wantQ; first | (rw [if_pos (by dsimp only; omega)]; done) | (rw [if_neg (by dsimp only; omega)]; done)
    have hP : va_P g.1 vwCl (wM g a f1 f2 f3 f4 f5 f6 f7 f8 f9 f10 f11 f12 f13 f20 f21 ((su (su (su (fun _ _ => 0) 22 (fun _ => f22)) 23 (fun _ => f23)) 25 (fun _ => 1)) 22 0) ((su (su (su (fun _ _ => 0) 22 (fun _ => f22)) 23 (fun _ => f23)) 25 (fun _ => 1)) 23 0) f24 ((su (su (su (fun _ _ => 0) 22 (fun _ => f22)) 23 (fun _ => f23)) 25 (fun _ => 1)) 25 0)) H := hP
    have hD : va_D (va_A (wM g a f1 f2 f3 f4 f5 f6 f7 f8 f9 f10 f11 f12 f13 f20 f21 f22 f23 f24 f25) s.heap.size) (wM g a f1 f2 f3 f4 f5 f6 f7 f8 f9 f10 f11 f12 f13 f20 f21 ((su (su (su (fun _ _ => 0) 22 (fun _ => f22)) 23 (fun _ => f23)) 25 (fun _ => 1)) 22 0) ((su (su (su (fun _ _ => 0) 22 (fun _ => f22)) 23 (fun _ => f23)) 25 (fun _ => 1)) 23 0) f24 ((su (su (su (fun _ _ => 0) 22 (fun _ => f22)) 23 (fun _ => f23)) 25 (fun _ => 1)) 25 0)) := hD
    exact W.vret hx hb hr (fun t ht hW => ⟨⟨(su (su (su (fun _ _ => 0) 22 (fun _ => f22)) 23 (fun _ => f23)) 25 (fun _ => 1)), rfl, hj, by rw [ht]; exact hP, hD⟩, hS.F ht⟩) hS.2.2 dX5_wants_31
  · refine lv_iload_n hx hb dX5_wants_8 rfl (lv_at hl 1 rfl) ?_
    refine xi_z_ne (tgt := 16) hx hb ⟨by omega, by omega⟩ dX5_wants_9 (by decide) (fun z2 => ?_) (fun z2 => ?_)
    · refine lv_iconst (v := iI (0)) hx hb dX5_wants_16 (by decide) ?_
      refine xp_X5 hx hb hts hown hK hP hD hS 0 rfl 14 (by decide) fk_X5_233 rfl (v := .int (iI 0)) rfl rfl (Nat.le_of_ble_eq_true rfl) dX5_wants_17 (fun H locs hP hD hS => ?_)
      have hP : va_P g.1 vwCl (wM g a f1 f2 f3 f4 f5 f6 f7 f8 f9 f10 f11 f12 f13 f20 f21 f22 f23 f24 0) H := hP
      have hD : va_D (va_A (wM g a f1 f2 f3 f4 f5 f6 f7 f8 f9 f10 f11 f12 f13 f20 f21 f22 f23 f24 f25) s.heap.size) (wM g a f1 f2 f3 f4 f5 f6 f7 f8 f9 f10 f11 f12 f13 f20 f21 f22 f23 f24 0) := hD
      refine lv_aload_n hx hb dX5_wants_20 rfl (lv_at hl 0 rfl) ?_
      refine xg_X5 hx hb hts hown hK hP 0 rfl 14 (by decide) fk_X5_233 (v := .int (iI 0)) rfl dX5_wants_21 ?_
      refine xi_zf_ne hx hb ⟨by decide, by decide⟩ (by decide) dX5_wants_24 ⟨31, by decide⟩ ?_
      refine lv_aload_n hx hb dX5_wants_27 rfl (lv_at hl 0 rfl) ?_
      refine xm_v (rV (rest := []) hx hb hml hown hts hK hl (c_X5_token l g a f1 f2 f3 f4 f5 f6 f7 f8 f9 f10 f11 f12 f13 f20 f21 f22 f23 f24 0 H.size (show ∀ j, 0 ≤ f9 j ∧ f9 j ≤ 255 from h1) (show 0 ≤ f21 ∧ f21 ≤ 120 from by omega) (show 0 ≤ f23 ∧ f23 ≤ f21 from by omega)) lk_X5_237 ⟨rfl, hP, hD.weaken (fun _ _ _ _ => trivial)⟩ (va_recv hK.1 hP (ci := 5) (q0 := 0) rfl rfl) rfl rfl rfl (Rm.of rfl) rfl rfl dX5_wants_28) hD hS hA (fun _ H locs hw hP hD hS => ?_)
      have hP : va_P g.1 vwCl (wM g a f1 f2 f3 f4 f5 f6 f7 f8 f9 f10 f11 f12 f13 f20 f21 (tkF f9 f21 f23) (tkE f9 f21 (tkF f9 f21 f23)) f24 0) H := hP
      have hD : va_D (va_A (wM g a f1 f2 f3 f4 f5 f6 f7 f8 f9 f10 f11 f12 f13 f20 f21 f22 f23 f24 f25) s.heap.size) (wM g a f1 f2 f3 f4 f5 f6 f7 f8 f9 f10 f11 f12 f13 f20 f21 (tkF f9 f21 f23) (tkE f9 f21 (tkF f9 f21 f23)) f24 0) := hD
      have hj : ((0, (tkF f9 f21 f23), (tkE f9 f21 (tkF f9 f21 f23)), f24) : Q4) = wantQ f9 f21 (f25, f22, f23, f24) x := by unfold wantQ; first | (rw [if_pos (by dsimp only; omega)]; done) | (rw [if_neg (by dsimp only; omega)]; done)
      have hP : va_P g.1 vwCl (wM g a f1 f2 f3 f4 f5 f6 f7 f8 f9 f10 f11 f12 f13 f20 f21 ((su (su (su (fun _ _ => 0) 22 (fun _ => tkF f9 f21 f23)) 23 (fun _ => tkE f9 f21 (tkF f9 f21 f23))) 25 (fun _ => 0)) 22 0) ((su (su (su (fun _ _ => 0) 22 (fun _ => tkF f9 f21 f23)) 23 (fun _ => tkE f9 f21 (tkF f9 f21 f23))) 25 (fun _ => 0)) 23 0) f24 ((su (su (su (fun _ _ => 0) 22 (fun _ => tkF f9 f21 f23)) 23 (fun _ => tkE f9 f21 (tkF f9 f21 f23))) 25 (fun _ => 0)) 25 0)) H := hP
      have hD : va_D (va_A (wM g a f1 f2 f3 f4 f5 f6 f7 f8 f9 f10 f11 f12 f13 f20 f21 f22 f23 f24 f25) s.heap.size) (wM g a f1 f2 f3 f4 f5 f6 f7 f8 f9 f10 f11 f12 f13 f20 f21 ((su (su (su (fun _ _ => 0) 22 (fun _ => tkF f9 f21 f23)) 23 (fun _ => tkE f9 f21 (tkF f9 f21 f23))) 25 (fun _ => 0)) 22 0) ((su (su (su (fun _ _ => 0) 22 (fun _ => tkF f9 f21 f23)) 23 (fun _ => tkE f9 f21 (tkF f9 f21 f23))) 25 (fun _ => 0)) 23 0) f24 ((su (su (su (fun _ _ => 0) 22 (fun _ => tkF f9 f21 f23)) 23 (fun _ => tkE f9 f21 (tkF f9 f21 f23))) 25 (fun _ => 0)) 25 0)) := hD
      exact W.vret hx hb hr (fun t ht hW => ⟨⟨(su (su (su (fun _ _ => 0) 22 (fun _ => tkF f9 f21 f23)) 23 (fun _ => tkE f9 f21 (tkF f9 f21 f23))) 25 (fun _ => 0)), rfl, hj, by rw [ht]; exact hP, hD⟩, hS.F ht⟩) hS.2.2 dX5_wants_31
    · refine lv_iconst (v := iI (1)) hx hb dX5_wants_12 (by decide) ?_
      refine lv_goto (tgt := 17) hx hb dX5_wants_13 (by decide) ?_
      refine xp_X5 hx hb hts hown hK hP hD hS 0 rfl 14 (by decide) fk_X5_233 rfl (v := .int (iI 1)) rfl rfl (Nat.le_of_ble_eq_true rfl) dX5_wants_17 (fun H locs hP hD hS => ?_)
      have hP : va_P g.1 vwCl (wM g a f1 f2 f3 f4 f5 f6 f7 f8 f9 f10 f11 f12 f13 f20 f21 f22 f23 f24 1) H := hP
      have hD : va_D (va_A (wM g a f1 f2 f3 f4 f5 f6 f7 f8 f9 f10 f11 f12 f13 f20 f21 f22 f23 f24 f25) s.heap.size) (wM g a f1 f2 f3 f4 f5 f6 f7 f8 f9 f10 f11 f12 f13 f20 f21 f22 f23 f24 1) := hD
      refine lv_aload_n hx hb dX5_wants_20 rfl (lv_at hl 0 rfl) ?_
      refine xg_X5 hx hb hts hown hK hP 0 rfl 14 (by decide) fk_X5_233 (v := .int (iI 1)) rfl dX5_wants_21 ?_
      refine xi_zt_ne (tgt := 31) hx hb ⟨by decide, by decide⟩ (by decide) dX5_wants_24 (by decide) ?_
      have hj : ((1, f22, f23, f24) : Q4) = wantQ f9 f21 (f25, f22, f23, f24) x := by unfold wantQ; first | (rw [if_pos (by dsimp only; omega)]; done) | (rw [if_neg (by dsimp only; omega)]; done)
      have hP : va_P g.1 vwCl (wM g a f1 f2 f3 f4 f5 f6 f7 f8 f9 f10 f11 f12 f13 f20 f21 ((su (su (su (fun _ _ => 0) 22 (fun _ => f22)) 23 (fun _ => f23)) 25 (fun _ => 1)) 22 0) ((su (su (su (fun _ _ => 0) 22 (fun _ => f22)) 23 (fun _ => f23)) 25 (fun _ => 1)) 23 0) f24 ((su (su (su (fun _ _ => 0) 22 (fun _ => f22)) 23 (fun _ => f23)) 25 (fun _ => 1)) 25 0)) H := hP
      have hD : va_D (va_A (wM g a f1 f2 f3 f4 f5 f6 f7 f8 f9 f10 f11 f12 f13 f20 f21 f22 f23 f24 f25) s.heap.size) (wM g a f1 f2 f3 f4 f5 f6 f7 f8 f9 f10 f11 f12 f13 f20 f21 ((su (su (su (fun _ _ => 0) 22 (fun _ => f22)) 23 (fun _ => f23)) 25 (fun _ => 1)) 22 0) ((su (su (su (fun _ _ => 0) 22 (fun _ => f22)) 23 (fun _ => f23)) 25 (fun _ => 1)) 23 0) f24 ((su (su (su (fun _ _ => 0) 22 (fun _ => f22)) 23 (fun _ => f23)) 25 (fun _ => 1)) 25 0)) := hD
      exact W.vret hx hb hr (fun t ht hW => ⟨⟨(su (su (su (fun _ _ => 0) 22 (fun _ => f22)) 23 (fun _ => f23)) 25 (fun _ => 1)), rfl, hj, by rw [ht]; exact hP, hD⟩, hS.F ht⟩) hS.2.2 dX5_wants_31
