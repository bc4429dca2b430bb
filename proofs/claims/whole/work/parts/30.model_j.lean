theorem soT_le {s N : Int → Int} {a r : Int} : ∀ {n j : Nat}, soT s N a r n = true → j ≤ n → soT s N a r j = true
  | 0, j => fun h hj => by rw [show j = 0 by omega]; exact h
  | n + 1, j => fun h hj => by
    by_cases e : j = n + 1
    · rw [e]; exact h
    · simp only [soT, Bool.and_eq_true] at h
      exact soT_le h.1 (by omega)
def fUnd (k : Int) : Int := if k = 0 then 4 else 0
abbrev rm_X5_lays : Room := { frames := 3, cells := 0, slots := 0, locals := 66 }
set_option maxRecDepth 100000 in
set_option maxHeartbeats 4000000 in
theorem c_X5_lays (l : Launch) (g : Gd) (a : Nat → Nat) (f1 : Int → Int) (f2 : Int → Int) (f3 : Int → Int) (f4 : Int → Int) (f5 : Int → Int) (f6 : Int → Int) (f7 : Int → Int) (f8 : Int → Int) (f9 : Int → Int) (f10 : Int → Int) (f11 : Int → Int) (f12 : Int → Int) (f13 : Int → Int) (f20 : Int) (f21 : Int) (f22 : Int) (f23 : Int) (f24 : Int) (f25 : Int) (k : Int) (sz : Nat) (h1 : InvK 0 f1) (h2 : f1 0 ≤ 9999) (h3 : IR k) (h4 : InvS f10 f11) (h5 : ∀ j, LR (f12 j)) : Met l yX5_lays (wsOf yX5_lays cX5_lays 7 (some .int)) rm_X5_lays (PX g (wP g (wM g a f1 f2 f3 f4 f5 f6 f7 f8 f9 f10 f11 f12 f13 f20 f21 f22 f23 f24 f25) sz) [.ref (a 0), .int (iI k)]) (QMi g (fun _ : Unit => wM g a (if fWro f10 k = 0 then lyT f1 f12 (40 * k) (lyN f1 f11 k) else f1) f2 f3 f4 f5 (fb (fWro f10 k) f6) f7 f8 f9 f10 f11 f12 f13 f20 f21 f22 f23 f24 f25) (fun r9 _ => r9 = ab (fWro f10 k) (iI (lyC f12 (40 * k) (lyN f1 f11 k)))) (va_A (wM g a f1 f2 f3 f4 f5 f6 f7 f8 f9 f10 f11 f12 f13 f20 f21 f22 f23 f24 f25) sz)) 0 0 (va_A (wM g a f1 f2 f3 f4 f5 f6 f7 f8 f9 f10 f11 f12 f13 f20 f21 f22 f23 f24 f25) sz) := by
  refine me (g := g) (by decide) rfl ?_
  intro pq eq s mq below meth cq C hnm hB ls hl
  obtain ⟨hx, hb, hr, hml, hown, hts, hlocks, hK⟩ := C
  have hown : s.vm.findClass RX5 = some mq.cls := hown
  have hl : lv_has ls 7 [(0, .ref (a 0)), (1, .int (iI k))] := hl
  obtain ⟨hsz, hP, hD0⟩ := hB
  subst hsz
  have hD := hD0.self (sz := s.heap.size)
  have hA : ∀ q : Nat, s.heap.size ≤ q → va_A (wM g a f1 f2 f3 f4 f5 f6 f7 f8 f9 f10 f11 f12 f13 f20 f21 f22 f23 f24 f25) s.heap.size q := fun q h => Or.inr h
  have hS : va_S (va_A (wM g a f1 f2 f3 f4 f5 f6 f7 f8 f9 f10 f11 f12 f13 f20 f21 f22 f23 f24 f25) s.heap.size) s.heap s.heap [] := va_S.rf
  have hI := h1
  have hI8 : Inv f1 := h1.mono (by omega)
  have hn := hI.num
  have hs := hI.sea
  have hv := hI.vil
  have q1 := h3.1
  have q2 := h3.2
  have hS9 := h4 k
  refine lv_aload_n hx hb dX5_lays_0 rfl (lv_at hl 0 rfl) ?_
  refine lv_iload_n hx hb dX5_lays_1 rfl (lv_at hl 1 rfl) ?_
  refine xu_i (x := iI (abL (fWro f10 k) 0)) (rV (rest := []) hx hb hml hown hts hK hl (c_X5_wrong l g a f1 f2 f3 f4 f5 f6 f7 f8 f9 f10 f11 f12 f13 f20 f21 f22 f23 f24 f25 k (show IR k from ⟨by omega, by omega⟩) (show InvS f10 f11 from h4)) lk_X5_317 hP (va_recv hK.1 hP (ci := 5) (q0 := 0) rfl rfl) rfl rfl rfl (Rm.of rfl) rfl rfl dX5_lays_2) ?_
  rcases (show (((0 ≤ k ∧ k ≤ 3) ∧ ¬ f10 k = 0) ∧ abL (fWro f10 k) 0 = 0) ∨ ((¬ (0 ≤ k ∧ k ≤ 3)) ∧ abL (fWro f10 k) 0 = -1000000001) ∨ (((0 ≤ k ∧ k ≤ 3) ∧ f10 k = 0) ∧ abL (fWro f10 k) 0 = -1000000006) from wroC f10 k) with ⟨z1, e1⟩ | ⟨z1, e1⟩ | ⟨z1, e1⟩
  · rw [e1]
    refine lv_istore_n (lv' := [(2, .int (iI 0)), (0, .ref (a 0)), (1, .int (iI k))]) hx hb dX5_lays_5 rfl hl (by decide) rfl (fun ls hl => ?_)
    refine lv_iload_n hx hb dX5_lays_6 rfl (lv_at hl 0 rfl) ?_
    refine xi_zt_eq (tgt := 16) hx hb ⟨by decide, by decide⟩ (by decide) dX5_lays_7 (by decide) ?_
    refine lv_iconst (v := iI (0)) hx hb dX5_lays_16 (by decide) ?_
    refine lv_istore_n (lv' := [(3, .int (iI 0)), (2, .int (iI 0)), (0, .ref (a 0)), (1, .int (iI k))]) hx hb dX5_lays_17 rfl hl (by decide) rfl (fun ls hl => ?_)
    refine lv_iconst (v := iI (0)) hx hb dX5_lays_18 (by decide) ?_
    refine lv_istore (lv' := [(4, .int (iI 0)), (3, .int (iI 0)), (2, .int (iI 0)), (0, .ref (a 0)), (1, .int (iI k))]) hx hb dX5_lays_19 hl (by decide) rfl (fun ls hl => ?_)
    have lp21 : ∀ (n21 : Nat) (j : Nat), ((j : Int) ≤ f1 1 ∧ (j : Int) ≤ f11 k) → (0 ≤ k ∧ k ≤ 3 ∧ ¬ f10 k = 0) → 8 - j < n21 → ∀ ls : Array Slot, lv_has ls 7 [(4, .int (iI (j : Int))), (3, .int (iI (lyC f12 (40 * k) j))), (2, .int (iI 0)), (0, .ref (a 0)), (1, .int (iI k))] → ∀ (H : Heap) (locs : List Loc), va_P g.1 vwCl (wM g a (lyT f1 f12 (40 * k) j) f2 f3 f4 f5 f6 f7 f8 f9 f10 f11 f12 f13 f20 f21 f22 f23 f24 f25) H → va_D (va_A (wM g a f1 f2 f3 f4 f5 f6 f7 f8 f9 f10 f11 f12 f13 f20 f21 f22 f23 f24 f25) s.heap.size) (wM g a (lyT f1 f12 (40 * k) j) f2 f3 f4 f5 f6 f7 f8 f9 f10 f11 f12 f13 f20 f21 f22 f23 f24 f25) → va_S (va_A (wM g a f1 f2 f3 f4 f5 f6 f7 f8 f9 f10 f11 f12 f13 f20 f21 f22 f23 f24 f25) s.heap.size) s.heap H locs → W pq l eq rm_X5_lays s mq [.ref (a 0), .int (iI k)].toArray below meth cq H locs 0 0 (MQ below (QMi g (fun _ : Unit => wM g a (if fWro f10 k = 0 then lyT f1 f12 (40 * k) (lyN f1 f11 k) else f1) f2 f3 f4 f5 (fb (fWro f10 k) f6) f7 f8 f9 f10 f11 f12 f13 f20 f21 f22 f23 f24 f25) (fun r9 _ => r9 = ab (fWro f10 k) (iI (lyC f12 (40 * k) (lyN f1 f11 k)))) (va_A (wM g a f1 f2 f3 f4 f5 f6 f7 f8 f9 f10 f11 f12 f13 f20 f21 f22 f23 f24 f25) s.heap.size)) [.ref (a 0), .int (iI k)].toArray s 0 0 (va_A (wM g a f1 f2 f3 f4 f5 f6 f7 f8 f9 f10 f11 f12 f13 f20 f21 f22 f23 f24 f25) s.heap.size)) (F0 mq 21 ls []) := by
      intro n21
      induction n21 with
      | zero => intro j i21_1 i21_2 hm; exact absurd hm (Nat.not_lt_zero _)
      | succ n21 ih21 =>
        intro j i21_1 i21_2 hm21 ls hl H locs hP hD hS
        have hz9 := hS9 (by omega) (by omega)
        have e1 : lyT f1 f12 (40 * k) j 1 = f1 1 := lyT_1 _ _ _ _ _ (by omega)
        refine lv_iload hx hb dX5_lays_21 (lv_at hl 0 rfl) ?_
        refine lv_aload_n hx hb dX5_lays_23 rfl (lv_at hl 3 rfl) ?_
        refine xg_X5 hx hb hts hown hK hP 0 rfl 16 (by decide) fk_X5_40 (v := .ref (a 11)) rfl dX5_lays_24 ?_
        refine lv_iload_n hx hb dX5_lays_27 rfl (lv_at hl 4 rfl) ?_
        refine xi_ald hx hb hK hP 11 (f := f11) rfl (i := k) ⟨by omega, by omega⟩ rfl dX5_lays_28 ?_
        refine xi_c_ge (tgt := 92) hx hb ⟨by omega, by omega⟩ ⟨by omega, by omega⟩ dX5_lays_29 (by decide) (fun z2 => ?_) (fun z2 => ?_)
        · have hly : lyN f1 f11 k = j := by unfold lyN; omega
          refine lv_iload_n hx hb dX5_lays_92 rfl (lv_at hl 1 rfl) ?_
          have hf : fWro f10 k = 0 := by unfold fWro; (repeat (first | rw [if_pos (by omega)] | rw [if_neg (by omega)])); first | done | (exfalso; omega)
          have he3 : (lyT f1 f12 (40 * k) j) = (if fWro f10 k = 0 then lyT f1 f12 (40 * k) (lyN f1 f11 k) else f1) := by rw [hf, if_pos rfl, hly]
          have hP := Eq.mp (congrArg (fun z9 => va_P g.1 vwCl (wM g a z9 f2 f3 f4 f5 f6 f7 f8 f9 f10 f11 f12 f13 f20 f21 f22 f23 f24 f25) H) he3) hP
          have hD := Eq.mp (congrArg (fun z9 => va_D (va_A (wM g a f1 f2 f3 f4 f5 f6 f7 f8 f9 f10 f11 f12 f13 f20 f21 f22 f23 f24 f25) s.heap.size) (wM g a z9 f2 f3 f4 f5 f6 f7 f8 f9 f10 f11 f12 f13 f20 f21 f22 f23 f24 f25)) he3) hD
          have he4 : f6 = (fb (fWro f10 k) f6) := by rw [hf]; rfl
          have hP := Eq.mp (congrArg (fun z9 => va_P g.1 vwCl (wM g a (if fWro f10 k = 0 then lyT f1 f12 (40 * k) (lyN f1 f11 k) else f1) f2 f3 f4 f5 z9 f7 f8 f9 f10 f11 f12 f13 f20 f21 f22 f23 f24 f25) H) he4) hP
          have hD := Eq.mp (congrArg (fun z9 => va_D (va_A (wM g a f1 f2 f3 f4 f5 f6 f7 f8 f9 f10 f11 f12 f13 f20 f21 f22 f23 f24 f25) s.heap.size) (wM g a (if fWro f10 k = 0 then lyT f1 f12 (40 * k) (lyN f1 f11 k) else f1) f2 f3 f4 f5 z9 f7 f8 f9 f10 f11 f12 f13 f20 f21 f22 f23 f24 f25)) he4) hD
          have hP : va_P g.1 vwCl (wM g a (if fWro f10 k = 0 then lyT f1 f12 (40 * k) (lyN f1 f11 k) else f1) f2 f3 f4 f5 (fb (fWro f10 k) f6) f7 f8 f9 f10 f11 f12 f13 f20 f21 f22 f23 f24 f25) H := hP
          have hD : va_D (va_A (wM g a f1 f2 f3 f4 f5 f6 f7 f8 f9 f10 f11 f12 f13 f20 f21 f22 f23 f24 f25) s.heap.size) (wM g a (if fWro f10 k = 0 then lyT f1 f12 (40 * k) (lyN f1 f11 k) else f1) f2 f3 f4 f5 (fb (fWro f10 k) f6) f7 f8 f9 f10 f11 f12 f13 f20 f21 f22 f23 f24 f25) := hD
          exact W.iret hx hb hr (fun t ht hW => ⟨⟨_, (), rfl, by rw [hf, ab_0, hly], by rw [ht]; exact hP, hD⟩, hS.F ht⟩) hS.2.2 dX5_lays_93
        · refine lv_iload hx hb dX5_lays_32 (lv_at hl 0 rfl) ?_
          refine lv_aload_n hx hb dX5_lays_34 rfl (lv_at hl 3 rfl) ?_
          refine xg_X5 hx hb hts hown hK hP 0 rfl 0 (by decide) fk_X5_7 (v := .ref (a 1)) rfl dX5_lays_35 ?_
          refine lv_iconst (v := iI (1)) hx hb dX5_lays_38 (by decide) ?_
          refine xi_ald hx hb hK hP 1 (f := lyT f1 f12 (40 * k) j) rfl (i := 1) ⟨by omega, by omega⟩ rfl dX5_lays_39 ?_
          refine xi_c_ge (tgt := 92) hx hb ⟨by omega, by omega⟩ ⟨by omega, by omega⟩ dX5_lays_40 (by decide) (fun z5 => ?_) (fun z5 => ?_)
          · have hly : lyN f1 f11 k = j := by unfold lyN; omega
            refine lv_iload_n hx hb dX5_lays_92 rfl (lv_at hl 1 rfl) ?_
            have hf : fWro f10 k = 0 := by unfold fWro; (repeat (first | rw [if_pos (by omega)] | rw [if_neg (by omega)])); first | done | (exfalso; omega)
            have he6 : (lyT f1 f12 (40 * k) j) = (if fWro f10 k = 0 then lyT f1 f12 (40 * k) (lyN f1 f11 k) else f1) := by rw [hf, if_pos rfl, hly]
            have hP := Eq.mp (congrArg (fun z9 => va_P g.1 vwCl (wM g a z9 f2 f3 f4 f5 f6 f7 f8 f9 f10 f11 f12 f13 f20 f21 f22 f23 f24 f25) H) he6) hP
            have hD := Eq.mp (congrArg (fun z9 => va_D (va_A (wM g a f1 f2 f3 f4 f5 f6 f7 f8 f9 f10 f11 f12 f13 f20 f21 f22 f23 f24 f25) s.heap.size) (wM g a z9 f2 f3 f4 f5 f6 f7 f8 f9 f10 f11 f12 f13 f20 f21 f22 f23 f24 f25)) he6) hD
            have he7 : f6 = (fb (fWro f10 k) f6) := by rw [hf]; rfl
            have hP := Eq.mp (congrArg (fun z9 => va_P g.1 vwCl (wM g a (if fWro f10 k = 0 then lyT f1 f12 (40 * k) (lyN f1 f11 k) else f1) f2 f3 f4 f5 z9 f7 f8 f9 f10 f11 f12 f13 f20 f21 f22 f23 f24 f25) H) he7) hP
            have hD := Eq.mp (congrArg (fun z9 => va_D (va_A (wM g a f1 f2 f3 f4 f5 f6 f7 f8 f9 f10 f11 f12 f13 f20 f21 f22 f23 f24 f25) s.heap.size) (wM g a (if fWro f10 k = 0 then lyT f1 f12 (40 * k) (lyN f1 f11 k) else f1) f2 f3 f4 f5 z9 f7 f8 f9 f10 f11 f12 f13 f20 f21 f22 f23 f24 f25)) he7) hD
            have hP : va_P g.1 vwCl (wM g a (if fWro f10 k = 0 then lyT f1 f12 (40 * k) (lyN f1 f11 k) else f1) f2 f3 f4 f5 (fb (fWro f10 k) f6) f7 f8 f9 f10 f11 f12 f13 f20 f21 f22 f23 f24 f25) H := hP
            have hD : va_D (va_A (wM g a f1 f2 f3 f4 f5 f6 f7 f8 f9 f10 f11 f12 f13 f20 f21 f22 f23 f24 f25) s.heap.size) (wM g a (if fWro f10 k = 0 then lyT f1 f12 (40 * k) (lyN f1 f11 k) else f1) f2 f3 f4 f5 (fb (fWro f10 k) f6) f7 f8 f9 f10 f11 f12 f13 f20 f21 f22 f23 f24 f25) := hD
            exact W.iret hx hb hr (fun t ht hW => ⟨⟨_, (), rfl, by rw [hf, ab_0, hly], by rw [ht]; exact hP, hD⟩, hS.F ht⟩) hS.2.2 dX5_lays_93
          · refine lv_aload_n hx hb dX5_lays_43 rfl (lv_at hl 3 rfl) ?_
            refine xg_X5 hx hb hts hown hK hP 0 rfl 17 (by decide) fk_X5_43 (v := .ref (a 12)) rfl dX5_lays_44 ?_
            refine lv_bipush (v := iI (40)) hx hb dX5_lays_47 (by decide) ?_
            refine lv_iload_n hx hb dX5_lays_49 rfl (lv_at hl 4 rfl) ?_
            refine xi_mul hx hb dX5_lays_50 ?_
            refine lv_iload hx hb dX5_lays_51 (lv_at hl 0 rfl) ?_
            refine xi_add hx hb dX5_lays_53 ?_
            refine xl_ald hx hb hK hP 12 (f := f12) rfl (i := 40 * k + (j : Int)) ⟨by omega, by omega⟩ rfl dX5_lays_54 ?_
            refine lv_lstore (lv' := [(5, .long (lI (f12 (40 * k + (j : Int))))), (4, .int (iI (j : Int))), (3, .int (iI (lyC f12 (40 * k) j))), (2, .int (iI 0)), (0, .ref (a 0)), (1, .int (iI k))]) hx hb dX5_lays_55 hl (by decide) rfl (fun ls hl => ?_)
            refine lv_lload hx hb dX5_lays_57 (lv_at hl 0 rfl) ?_
            refine lv_lconst (v := lI (0)) hx hb dX5_lays_59 (by decide) ?_
            refine xl_ldc hx hb hown hts kk_X5_72 dX5_lays_60 ?_
            refine xu_b (P := 0 ≤ (f12 (40 * k + (j : Int))) ∧ (f12 (40 * k + (j : Int))) ≤ 9) (rS (rest := []) hx hb hml hown hts hK hl (c_X5_in l g (f12 (40 * k + (j : Int))) 0 9 (show LR (f12 (40 * k + (j : Int))) from h5 _) (show LR 0 from ⟨by omega, by omega⟩) (show LR 9 from ⟨by omega, by omega⟩)) lk_X5_53 trivial rfl rfl rfl (Rm.of rfl) rfl rfl dX5_lays_63) (fun z8 => ?_) (fun z8 => ?_)
            · refine xi_zf_eq hx hb ⟨by decide, by decide⟩ (by decide) dX5_lays_66 ⟨86, by decide⟩ ?_
              refine lv_aload_n hx hb dX5_lays_69 rfl (lv_at hl 4 rfl) ?_
              refine xg_X5 hx hb hts hown hK hP 0 rfl 0 (by decide) fk_X5_7 (v := .ref (a 1)) rfl dX5_lays_70 ?_
              refine lv_iload hx hb dX5_lays_73 (lv_at hl 1 rfl) ?_
              refine lv_iconst (v := iI (2)) hx hb dX5_lays_75 (by decide) ?_
              refine xu_i (x := iI (61 + 5 * (j : Int) + 2)) (rS (rest := [.ref (a 1)]) hx hb hml hown hts hK hl (c_X5_spot l g (j : Int) 2 ) lk_X5_59 trivial rfl rfl rfl (Rm.of rfl) rfl rfl dX5_lays_76) ?_
              refine lv_lload hx hb dX5_lays_79 (lv_at hl 0 rfl) ?_
              refine xi_l2i hx hb dX5_lays_81 ?_
              refine xi_ast hx hb hK hP hD hS 1 (f := lyT f1 f12 (40 * k) j) rfl (i := 61 + 5 * (j : Int) + 2) (v := f12 (40 * k + (j : Int))) ⟨by omega, by omega⟩ rfl dX5_lays_82 (fun H locs hP hD hS => ?_)
              have hP : va_P g.1 vwCl (wM g a (up (lyT f1 f12 (40 * k) j) (61 + 5 * (j : Int) + 2) (f12 (40 * k + (j : Int)))) f2 f3 f4 f5 f6 f7 f8 f9 f10 f11 f12 f13 f20 f21 f22 f23 f24 f25) H := hP
              have hD : va_D (va_A (wM g a f1 f2 f3 f4 f5 f6 f7 f8 f9 f10 f11 f12 f13 f20 f21 f22 f23 f24 f25) s.heap.size) (wM g a (up (lyT f1 f12 (40 * k) j) (61 + 5 * (j : Int) + 2) (f12 (40 * k + (j : Int)))) f2 f3 f4 f5 f6 f7 f8 f9 f10 f11 f12 f13 f20 f21 f22 f23 f24 f25) := hD
              refine xi_inc (lv' := [(3, .int (iI (lyC f12 (40 * k) j + 1))), (5, .long (lI (f12 (40 * k + (j : Int))))), (4, .int (iI (j : Int))), (2, .int (iI 0)), (0, .ref (a 0)), (1, .int (iI k))]) hx hb dX5_lays_83 hl (k := 2) rfl (by decide) rfl (fun ls hl => ?_)
              refine xi_inc (lv' := [(4, .int (iI ((j : Int) + 1))), (3, .int (iI (lyC f12 (40 * k) j + 1))), (5, .long (lI (f12 (40 * k + (j : Int))))), (2, .int (iI 0)), (0, .ref (a 0)), (1, .int (iI k))]) hx hb dX5_lays_86 hl (k := 2) rfl (by decide) rfl (fun ls hl => ?_)
              refine lv_goto (tgt := 21) hx hb dX5_lays_89 (by decide) ?_
              have hq10 : ((j : Int) + 1) = ((j + 1) : Int) := by omega
              have hq11 : (lyC f12 (40 * k) j + 1) = (lyC f12 (40 * k) (j + 1)) := by simp only [lyC]; first | (rw [if_pos (by omega)]; done) | (rw [if_neg (by omega)]; omega)
              have hl : lv_has ls 7 [(4, .int (iI ((j : Int) + 1))), (3, .int (iI (lyC f12 (40 * k) j + 1))), (2, .int (iI 0)), (0, .ref (a 0)), (1, .int (iI k))] := lv_sub hl [0, 1, 3, 4, 5] rfl
              have hl := Eq.mp (congrArg (fun z9 => lv_has ls 7 [(4, .int (iI z9)), (3, .int (iI (lyC f12 (40 * k) j + 1))), (2, .int (iI 0)), (0, .ref (a 0)), (1, .int (iI k))]) hq10) hl
              have hl := Eq.mp (congrArg (fun z9 => lv_has ls 7 [(4, .int (iI ((j + 1) : Int))), (3, .int (iI z9)), (2, .int (iI 0)), (0, .ref (a 0)), (1, .int (iI k))]) hq11) hl
              have hq12 : (up (lyT f1 f12 (40 * k) j) (61 + 5 * (j : Int) + 2) (f12 (40 * k + (j : Int)))) = (lyT f1 f12 (40 * k) (j + 1)) := by simp only [lyT]; first | (rw [if_pos (by omega)]; done) | (rw [if_neg (by omega)]; done)
              have hP := Eq.mp (congrArg (fun z9 => va_P g.1 vwCl (wM g a z9 f2 f3 f4 f5 f6 f7 f8 f9 f10 f11 f12 f13 f20 f21 f22 f23 f24 f25) H) hq12) hP
              have hD := Eq.mp (congrArg (fun z9 => va_D (va_A (wM g a f1 f2 f3 f4 f5 f6 f7 f8 f9 f10 f11 f12 f13 f20 f21 f22 f23 f24 f25) s.heap.size) (wM g a z9 f2 f3 f4 f5 f6 f7 f8 f9 f10 f11 f12 f13 f20 f21 f22 f23 f24 f25)) hq12) hD
              exact ih21 (j + 1) (by omega) (by omega) (by omega) ls hl H locs hP hD hS
            · refine xi_zt_eq (tgt := 86) hx hb ⟨by decide, by decide⟩ (by decide) dX5_lays_66 (by decide) ?_
              refine xi_inc (lv' := [(4, .int (iI ((j : Int) + 1))), (5, .long (lI (f12 (40 * k + (j : Int))))), (3, .int (iI (lyC f12 (40 * k) j))), (2, .int (iI 0)), (0, .ref (a 0)), (1, .int (iI k))]) hx hb dX5_lays_86 hl (k := 1) rfl (by decide) rfl (fun ls hl => ?_)
              refine lv_goto (tgt := 21) hx hb dX5_lays_89 (by decide) ?_
              have hq13 : ((j : Int) + 1) = ((j + 1) : Int) := by omega
              have hq14 : (lyC f12 (40 * k) j) = (lyC f12 (40 * k) (j + 1)) := by simp only [lyC]; first | (rw [if_pos (by omega)]; done) | (rw [if_neg (by omega)]; omega)
              have hl : lv_has ls 7 [(4, .int (iI ((j : Int) + 1))), (3, .int (iI (lyC f12 (40 * k) j))), (2, .int (iI 0)), (0, .ref (a 0)), (1, .int (iI k))] := lv_sub hl [0, 2, 3, 4, 5] rfl
              have hl := Eq.mp (congrArg (fun z9 => lv_has ls 7 [(4, .int (iI z9)), (3, .int (iI (lyC f12 (40 * k) j))), (2, .int (iI 0)), (0, .ref (a 0)), (1, .int (iI k))]) hq13) hl
              have hl := Eq.mp (congrArg (fun z9 => lv_has ls 7 [(4, .int (iI ((j + 1) : Int))), (3, .int (iI z9)), (2, .int (iI 0)), (0, .ref (a 0)), (1, .int (iI k))]) hq14) hl
              have hq15 : (lyT f1 f12 (40 * k) j) = (lyT f1 f12 (40 * k) (j + 1)) := by simp only [lyT]; first | (rw [if_pos (by omega)]; done) | (rw [if_neg (by omega)]; done)
              have hP := Eq.mp (congrArg (fun z9 => va_P g.1 vwCl (wM g a z9 f2 f3 f4 f5 f6 f7 f8 f9 f10 f11 f12 f13 f20 f21 f22 f23 f24 f25) H) hq15) hP
              have hD := Eq.mp (congrArg (fun z9 => va_D (va_A (wM g a f1 f2 f3 f4 f5 f6 f7 f8 f9 f10 f11 f12 f13 f20 f21 f22 f23 f24 f25) s.heap.size) (wM g a z9 f2 f3 f4 f5 f6 f7 f8 f9 f10 f11 f12 f13 f20 f21 f22 f23 f24 f25)) hq15) hD
              exact ih21 (j + 1) (by omega) (by omega) (by omega) ls hl H locs hP hD hS
    have hq16 : 0 = (0 : Int) := rfl
    have hq17 : 0 = (lyC f12 (40 * k) 0) := rfl
    have hl : lv_has ls 7 [(4, .int (iI 0)), (3, .int (iI 0)), (2, .int (iI 0)), (0, .ref (a 0)), (1, .int (iI k))] := lv_sub hl [0, 1, 2, 3, 4] rfl
    have hl := Eq.mp (congrArg (fun z9 => lv_has ls 7 [(4, .int (iI z9)), (3, .int (iI 0)), (2, .int (iI 0)), (0, .ref (a 0)), (1, .int (iI k))]) hq16) hl
    have hl := Eq.mp (congrArg (fun z9 => lv_has ls 7 [(4, .int (iI (0 : Int))), (3, .int (iI z9)), (2, .int (iI 0)), (0, .ref (a 0)), (1, .int (iI k))]) hq17) hl
    have hq18 : f1 = (lyT f1 f12 (40 * k) 0) := rfl
    have hP := Eq.mp (congrArg (fun z9 => va_P g.1 vwCl (wM g a z9 f2 f3 f4 f5 f6 f7 f8 f9 f10 f11 f12 f13 f20 f21 f22 f23 f24 f25) s.heap) hq18) hP
    have hD := Eq.mp (congrArg (fun z9 => va_D (va_A (wM g a f1 f2 f3 f4 f5 f6 f7 f8 f9 f10 f11 f12 f13 f20 f21 f22 f23 f24 f25) s.heap.size) (wM g a z9 f2 f3 f4 f5 f6 f7 f8 f9 f10 f11 f12 f13 f20 f21 f22 f23 f24 f25)) hq18) hD
    exact lp21 (8 + 1) 0 ⟨by omega, by have := hS9 (by omega) (by omega); omega⟩ (by omega) (by omega) ls hl s.heap [] hP hD hS
  · rw [e1]
    refine lv_istore_n (lv' := [(2, .int (iI (-1000000001))), (0, .ref (a 0)), (1, .int (iI k))]) hx hb dX5_lays_5 rfl hl (by decide) rfl (fun ls hl => ?_)
    refine lv_iload_n hx hb dX5_lays_6 rfl (lv_at hl 0 rfl) ?_
    refine xi_zf_eq hx hb ⟨by decide, by decide⟩ (by decide) dX5_lays_7 ⟨16, by decide⟩ ?_
    refine lv_aload_n hx hb dX5_lays_10 rfl (lv_at hl 1 rfl) ?_
    refine lv_iload_n hx hb dX5_lays_11 rfl (lv_at hl 0 rfl) ?_
    refine xm_i (rV (rest := []) hx hb hml hown hts hK hl (c_X5_finds l g a f1 f2 f3 f4 f5 f6 f7 f8 f9 f10 f11 f12 f13 f20 f21 f22 f23 f24 f25 (-1000000001) (s.heap).size (show 0 ≤ -1000000001 - (-1000000001) ∧ -1000000001 - (-1000000001) < 7 from by omega)) lk_X5_74 ⟨rfl, hP, hD.weaken (fun _ _ _ _ => trivial)⟩ (va_recv hK.1 hP (ci := 5) (q0 := 0) rfl rfl) rfl rfl rfl (Rm.of rfl) rfl rfl dX5_lays_12) hD hS hA (fun x9 _ H locs hw hP hD hS => ?_)
    obtain rfl : x9 = iI (-1000000001) := hw
    have hP : va_P g.1 vwCl (wM g a f1 f2 f3 f4 f5 (fb (-1000000000 - (-1000000001)) f6) f7 f8 f9 f10 f11 f12 f13 f20 f21 f22 f23 f24 f25) H := hP
    have hD : va_D (va_A (wM g a f1 f2 f3 f4 f5 f6 f7 f8 f9 f10 f11 f12 f13 f20 f21 f22 f23 f24 f25) s.heap.size) (wM g a f1 f2 f3 f4 f5 (fb (-1000000000 - (-1000000001)) f6) f7 f8 f9 f10 f11 f12 f13 f20 f21 f22 f23 f24 f25) := hD
    have hf : fWro f10 k = 1 := by unfold fWro; (repeat (first | rw [if_pos (by omega)] | rw [if_neg (by omega)])); first | done | (exfalso; omega)
    have he20 : f1 = (if fWro f10 k = 0 then lyT f1 f12 (40 * k) (lyN f1 f11 k) else f1) := by rw [hf]; rfl
    have hP := Eq.mp (congrArg (fun z9 => va_P g.1 vwCl (wM g a z9 f2 f3 f4 f5 (fb (-1000000000 - (-1000000001)) f6) f7 f8 f9 f10 f11 f12 f13 f20 f21 f22 f23 f24 f25) H) he20) hP
    have hD := Eq.mp (congrArg (fun z9 => va_D (va_A (wM g a f1 f2 f3 f4 f5 f6 f7 f8 f9 f10 f11 f12 f13 f20 f21 f22 f23 f24 f25) s.heap.size) (wM g a z9 f2 f3 f4 f5 (fb (-1000000000 - (-1000000001)) f6) f7 f8 f9 f10 f11 f12 f13 f20 f21 f22 f23 f24 f25)) he20) hD
    have he21 : (fb (-1000000000 - (-1000000001)) f6) = (fb (fWro f10 k) f6) := by rw [hf]; rfl
    have hP := Eq.mp (congrArg (fun z9 => va_P g.1 vwCl (wM g a (if fWro f10 k = 0 then lyT f1 f12 (40 * k) (lyN f1 f11 k) else f1) f2 f3 f4 f5 z9 f7 f8 f9 f10 f11 f12 f13 f20 f21 f22 f23 f24 f25) H) he21) hP
    have hD := Eq.mp (congrArg (fun z9 => va_D (va_A (wM g a f1 f2 f3 f4 f5 f6 f7 f8 f9 f10 f11 f12 f13 f20 f21 f22 f23 f24 f25) s.heap.size) (wM g a (if fWro f10 k = 0 then lyT f1 f12 (40 * k) (lyN f1 f11 k) else f1) f2 f3 f4 f5 z9 f7 f8 f9 f10 f11 f12 f13 f20 f21 f22 f23 f24 f25)) he21) hD
    have hP : va_P g.1 vwCl (wM g a (if fWro f10 k = 0 then lyT f1 f12 (40 * k) (lyN f1 f11 k) else f1) f2 f3 f4 f5 (fb (fWro f10 k) f6) f7 f8 f9 f10 f11 f12 f13 f20 f21 f22 f23 f24 f25) H := hP
    have hD : va_D (va_A (wM g a f1 f2 f3 f4 f5 f6 f7 f8 f9 f10 f11 f12 f13 f20 f21 f22 f23 f24 f25) s.heap.size) (wM g a (if fWro f10 k = 0 then lyT f1 f12 (40 * k) (lyN f1 f11 k) else f1) f2 f3 f4 f5 (fb (fWro f10 k) f6) f7 f8 f9 f10 f11 f12 f13 f20 f21 f22 f23 f24 f25) := hD
    exact W.iret hx hb hr (fun t ht hW => ⟨⟨_, (), rfl, by rw [hf]; rfl, by rw [ht]; exact hP, hD⟩, hS.F ht⟩) hS.2.2 dX5_lays_15
  · rw [e1]
    refine lv_istore_n (lv' := [(2, .int (iI (-1000000006))), (0, .ref (a 0)), (1, .int (iI k))]) hx hb dX5_lays_5 rfl hl (by decide) rfl (fun ls hl => ?_)
    refine lv_iload_n hx hb dX5_lays_6 rfl (lv_at hl 0 rfl) ?_
    refine xi_zf_eq hx hb ⟨by decide, by decide⟩ (by decide) dX5_lays_7 ⟨16, by decide⟩ ?_
    refine lv_aload_n hx hb dX5_lays_10 rfl (lv_at hl 1 rfl) ?_
    refine lv_iload_n hx hb dX5_lays_11 rfl (lv_at hl 0 rfl) ?_
    refine xm_i (rV (rest := []) hx hb hml hown hts hK hl (c_X5_finds l g a f1 f2 f3 f4 f5 f6 f7 f8 f9 f10 f11 f12 f13 f20 f21 f22 f23 f24 f25 (-1000000006) (s.heap).size (show 0 ≤ -1000000001 - (-1000000006) ∧ -1000000001 - (-1000000006) < 7 from by omega)) lk_X5_74 ⟨rfl, hP, hD.weaken (fun _ _ _ _ => trivial)⟩ (va_recv hK.1 hP (ci := 5) (q0 := 0) rfl rfl) rfl rfl rfl (Rm.of rfl) rfl rfl dX5_lays_12) hD hS hA (fun x9 _ H locs hw hP hD hS => ?_)
    obtain rfl : x9 = iI (-1000000006) := hw
    have hP : va_P g.1 vwCl (wM g a f1 f2 f3 f4 f5 (fb (-1000000000 - (-1000000006)) f6) f7 f8 f9 f10 f11 f12 f13 f20 f21 f22 f23 f24 f25) H := hP
    have hD : va_D (va_A (wM g a f1 f2 f3 f4 f5 f6 f7 f8 f9 f10 f11 f12 f13 f20 f21 f22 f23 f24 f25) s.heap.size) (wM g a f1 f2 f3 f4 f5 (fb (-1000000000 - (-1000000006)) f6) f7 f8 f9 f10 f11 f12 f13 f20 f21 f22 f23 f24 f25) := hD
    have hf : fWro f10 k = 6 := by unfold fWro; (repeat (first | rw [if_pos (by omega)] | rw [if_neg (by omega)])); first | done | (exfalso; omega)
    have he23 : f1 = (if fWro f10 k = 0 then lyT f1 f12 (40 * k) (lyN f1 f11 k) else f1) := by rw [hf]; rfl
    have hP := Eq.mp (congrArg (fun z9 => va_P g.1 vwCl (wM g a z9 f2 f3 f4 f5 (fb (-1000000000 - (-1000000006)) f6) f7 f8 f9 f10 f11 f12 f13 f20 f21 f22 f23 f24 f25) H) he23) hP
    have hD := Eq.mp (congrArg (fun z9 => va_D (va_A (wM g a f1 f2 f3 f4 f5 f6 f7 f8 f9 f10 f11 f12 f13 f20 f21 f22 f23 f24 f25) s.heap.size) (wM g a z9 f2 f3 f4 f5 (fb (-1000000000 - (-1000000006)) f6) f7 f8 f9 f10 f11 f12 f13 f20 f21 f22 f23 f24 f25)) he23) hD
    have he24 : (fb (-1000000000 - (-1000000006)) f6) = (fb (fWro f10 k) f6) := by rw [hf]; rfl
    have hP := Eq.mp (congrArg (fun z9 => va_P g.1 vwCl (wM g a (if fWro f10 k = 0 then lyT f1 f12 (40 * k) (lyN f1 f11 k) else f1) f2 f3 f4 f5 z9 f7 f8 f9 f10 f11 f12 f13 f20 f21 f22 f23 f24 f25) H) he24) hP
    have hD := Eq.mp (congrArg (fun z9 => va_D (va_A (wM g a f1 f2 f3 f4 f5 f6 f7 f8 f9 f10 f11 f12 f13 f20 f21 f22 f23 f24 f25) s.heap.size) (wM g a (if fWro f10 k = 0 then lyT f1 f12 (40 * k) (lyN f1 f11 k) else f1) f2 f3 f4 f5 z9 f7 f8 f9 f10 f11 f12 f13 f20 f21 f22 f23 f24 f25)) he24) hD
    have hP : va_P g.1 vwCl (wM g a (if fWro f10 k = 0 then lyT f1 f12 (40 * k) (lyN f1 f11 k) else f1) f2 f3 f4 f5 (fb (fWro f10 k) f6) f7 f8 f9 f10 f11 f12 f13 f20 f21 f22 f23 f24 f25) H := hP
    have hD : va_D (va_A (wM g a f1 f2 f3 f4 f5 f6 f7 f8 f9 f10 f11 f12 f13 f20 f21 f22 f23 f24 f25) s.heap.size) (wM g a (if fWro f10 k = 0 then lyT f1 f12 (40 * k) (lyN f1 f11 k) else f1) f2 f3 f4 f5 (fb (fWro f10 k) f6) f7 f8 f9 f10 f11 f12 f13 f20 f21 f22 f23 f24 f25) := hD
    exact W.iret hx hb hr (fun t ht hW => ⟨⟨_, (), rfl, by rw [hf]; rfl, by rw [ht]; exact hP, hD⟩, hS.F ht⟩) hS.2.2 dX5_lays_15
abbrev rm_X5_book : Room := { frames := 6, cells := 0, slots := 0, locals := 134 }
set_option maxRecDepth 100000 in
set_option maxHeartbeats 4000000 in
theorem c_X5_book (l : Launch) (g : Gd) (a : Nat → Nat) (f1 : Int → Int) (f2 : Int → Int) (f3 : Int → Int) (f4 : Int → Int) (f5 : Int → Int) (f6 : Int → Int) (f7 : Int → Int) (f8 : Int → Int) (f9 : Int → Int) (f10 : Int → Int) (f11 : Int → Int) (f12 : Int → Int) (f13 : Int → Int) (f20 : Int) (f21 : Int) (f22 : Int) (f23 : Int) (f24 : Int) (f25 : Int) (k : Int) (r : Int) (sz : Nat) (h1 : InvK 0 f1) (h2 : f1 0 ≤ 9999) (h3 : IR k) (h4 : IR r) (h5 : InvS f10 f11) : Met l yX5_book (wsOf yX5_book cX5_book 5 (some .int)) rm_X5_book (PX g (wP g (wM g a f1 f2 f3 f4 f5 f6 f7 f8 f9 f10 f11 f12 f13 f20 f21 f22 f23 f24 f25) sz) [.ref (a 0), .int (iI k), .int (iI r)]) (QMi g (fun u9 : Nat → Int → Int => wM g a f1 f2 f3 (u9 4) f5 (fb (fBok f1 f10 k r) f6) (u9 7) f8 f9 f10 f11 (if fBok f1 f10 k r = 0 then bkT f1 f12 (40 * k) r (f11 k) else f12) f13 f20 f21 f22 f23 f24 f25) (fun r9 _ => r9 = ab (fBok f1 f10 k r) (iI (f11 k))) (va_A (wM g a f1 f2 f3 f4 f5 f6 f7 f8 f9 f10 f11 f12 f13 f20 f21 f22 f23 f24 f25) sz)) 0 0 (va_A (wM g a f1 f2 f3 f4 f5 f6 f7 f8 f9 f10 f11 f12 f13 f20 f21 f22 f23 f24 f25) sz) := by
  refine me (g := g) (by decide) rfl ?_
  intro pq eq s mq below meth cq C hnm hB ls hl
  obtain ⟨hx, hb, hr, hml, hown, hts, hlocks, hK⟩ := C
  have hown : s.vm.findClass RX5 = some mq.cls := hown
  have hl : lv_has ls 5 [(0, .ref (a 0)), (1, .int (iI k)), (2, .int (iI r))] := hl
  obtain ⟨hsz, hP, hD0⟩ := hB
  subst hsz
  have hD := hD0.self (sz := s.heap.size)
  have hA : ∀ q : Nat, s.heap.size ≤ q → va_A (wM g a f1 f2 f3 f4 f5 f6 f7 f8 f9 f10 f11 f12 f13 f20 f21 f22 f23 f24 f25) s.heap.size q := fun q h => Or.inr h
  have hS : va_S (va_A (wM g a f1 f2 f3 f4 f5 f6 f7 f8 f9 f10 f11 f12 f13 f20 f21 f22 f23 f24 f25) s.heap.size) s.heap s.heap [] := va_S.rf
  have hI := h1
  have hI8 : Inv f1 := h1.mono (by omega)
  have hn := hI.num
  have hs := hI.sea
  have hv := hI.vil
  have q1 := h3.1
  have q3 := h4.1
  have q2 := h3.2
  have q4 := h4.2
  have hS9 := h5 k
  refine lv_aload_n hx hb dX5_book_0 rfl (lv_at hl 0 rfl) ?_
  refine lv_iload_n hx hb dX5_book_1 rfl (lv_at hl 1 rfl) ?_
  refine lv_iload_n hx hb dX5_book_2 rfl (lv_at hl 2 rfl) ?_
  refine xu_i (x := iI (abL (fBok f1 f10 k r) 0)) (rV (rest := []) hx hb hml hown hts hK hl (c_X5_wrongBook l g a f1 f2 f3 f4 f5 f6 f7 f8 f9 f10 f11 f12 f13 f20 f21 f22 f23 f24 f25 k r (show IR k from ⟨by omega, by omega⟩) (show InvS f10 f11 from h5) (show IR r from ⟨by omega, by omega⟩) (show 0 ≤ f1 1 ∧ f1 1 ≤ 8 from by omega)) lk_X5_324 hP (va_recv hK.1 hP (ci := 5) (q0 := 0) rfl rfl) rfl rfl rfl (Rm.of rfl) rfl rfl dX5_book_3) ?_
  rcases (show ((((0 ≤ k ∧ k ≤ 3) ∧ ¬ f10 k = 0) ∧ 0 ≤ r ∧ r < f1 1) ∧ abL (fBok f1 f10 k r) 0 = 0) ∨ ((¬ (0 ≤ k ∧ k ≤ 3)) ∧ abL (fBok f1 f10 k r) 0 = -1000000001) ∨ (((0 ≤ k ∧ k ≤ 3) ∧ f10 k = 0) ∧ abL (fBok f1 f10 k r) 0 = -1000000006) ∨ ((((0 ≤ k ∧ k ≤ 3) ∧ ¬ f10 k = 0) ∧ ¬ (0 ≤ r ∧ r < f1 1)) ∧ abL (fBok f1 f10 k r) 0 = -1000000001) from bokC f1 f10 k r) with ⟨z1, e1⟩ | ⟨z1, e1⟩ | ⟨z1, e1⟩ | ⟨z1, e1⟩
  · rw [e1]
    refine lv_istore_n (lv' := [(3, .int (iI 0)), (0, .ref (a 0)), (1, .int (iI k)), (2, .int (iI r))]) hx hb dX5_book_6 rfl hl (by decide) rfl (fun ls hl => ?_)
    refine lv_iload_n hx hb dX5_book_7 rfl (lv_at hl 0 rfl) ?_
    refine xi_zt_eq (tgt := 17) hx hb ⟨by decide, by decide⟩ (by decide) dX5_book_8 (by decide) ?_
    refine lv_aload_n hx hb dX5_book_17 rfl (lv_at hl 1 rfl) ?_
    refine xm_v (rV (rest := []) hx hb hml hown hts hK hl (c_X5_laysAside l g a f1 f2 f3 f4 f5 f6 f7 f8 f9 f10 f11 f12 f13 f20 f21 f22 f23 f24 f25 (s.heap).size ) lk_X5_172 ⟨rfl, hP, hD.weaken (fun _ _ _ _ => trivial)⟩ (va_recv hK.1 hP (ci := 5) (q0 := 0) rfl rfl) rfl rfl rfl (Rm.of rfl) rfl rfl dX5_book_18) hD hS hA (fun _ H locs hw hP hD hS => ?_)
    have hP : va_P g.1 vwCl (wM g a f1 f2 f3 f1 f5 f6 f7 f8 f9 f10 f11 f12 f13 f20 f21 f22 f23 f24 f25) H := hP
    have hD : va_D (va_A (wM g a f1 f2 f3 f4 f5 f6 f7 f8 f9 f10 f11 f12 f13 f20 f21 f22 f23 f24 f25) s.heap.size) (wM g a f1 f2 f3 f1 f5 f6 f7 f8 f9 f10 f11 f12 f13 f20 f21 f22 f23 f24 f25) := hD
    refine lv_iconst (v := iI (0)) hx hb dX5_book_21 (by decide) ?_
    refine lv_istore (lv' := [(4, .int (iI 0)), (3, .int (iI 0)), (0, .ref (a 0)), (1, .int (iI k)), (2, .int (iI r))]) hx hb dX5_book_22 hl (by decide) rfl (fun ls hl => ?_)
    have lp24 : ∀ (n24 : Nat) (j : Nat) (l7 : Int → Int), ((j : Int) ≤ f11 k) → ((0 ≤ k ∧ k ≤ 3 ∧ ¬ f10 k = 0) ∧ 0 ≤ r ∧ r < f1 1) → 40 - j < n24 → ∀ ls : Array Slot, lv_has ls 5 [(4, .int (iI (j : Int))), (3, .int (iI 0)), (0, .ref (a 0)), (1, .int (iI k)), (2, .int (iI r))] → ∀ (H : Heap) (locs : List Loc), va_P g.1 vwCl (wM g a (seaN f1 j) f2 f3 f1 f5 f6 l7 f8 f9 f10 f11 (bkT f1 f12 (40 * k) r (((j) : Nat) : Int)) f13 f20 f21 f22 f23 f24 f25) H → va_D (va_A (wM g a f1 f2 f3 f4 f5 f6 f7 f8 f9 f10 f11 f12 f13 f20 f21 f22 f23 f24 f25) s.heap.size) (wM g a (seaN f1 j) f2 f3 f1 f5 f6 l7 f8 f9 f10 f11 (bkT f1 f12 (40 * k) r (((j) : Nat) : Int)) f13 f20 f21 f22 f23 f24 f25) → va_S (va_A (wM g a f1 f2 f3 f4 f5 f6 f7 f8 f9 f10 f11 f12 f13 f20 f21 f22 f23 f24 f25) s.heap.size) s.heap H locs → W pq l eq rm_X5_book s mq [.ref (a 0), .int (iI k), .int (iI r)].toArray below meth cq H locs 0 0 (MQ below (QMi g (fun u9 : Nat → Int → Int => wM g a f1 f2 f3 (u9 4) f5 (fb (fBok f1 f10 k r) f6) (u9 7) f8 f9 f10 f11 (if fBok f1 f10 k r = 0 then bkT f1 f12 (40 * k) r (f11 k) else f12) f13 f20 f21 f22 f23 f24 f25) (fun r9 _ => r9 = ab (fBok f1 f10 k r) (iI (f11 k))) (va_A (wM g a f1 f2 f3 f4 f5 f6 f7 f8 f9 f10 f11 f12 f13 f20 f21 f22 f23 f24 f25) s.heap.size)) [.ref (a 0), .int (iI k), .int (iI r)].toArray s 0 0 (va_A (wM g a f1 f2 f3 f4 f5 f6 f7 f8 f9 f10 f11 f12 f13 f20 f21 f22 f23 f24 f25) s.heap.size)) (F0 mq 24 ls []) := by
      intro n24
      induction n24 with
      | zero => intro j l7 i24_1 i24_2 hm; exact absurd hm (Nat.not_lt_zero _)
      | succ n24 ih24 =>
        intro j l7 i24_1 i24_2 hm24 ls hl H locs hP hD hS
        have hz9 := hS9 (by omega) (by omega)
        have hsn := seaN_inv hI j (by omega)
        have hs0 := hsn.2.1
        have hs1 := hsn.2.2 1 (by omega) (by omega)
        refine lv_iload hx hb dX5_book_24 (lv_at hl 0 rfl) ?_
        refine lv_aload_n hx hb dX5_book_26 rfl (lv_at hl 2 rfl) ?_
        refine xg_X5 hx hb hts hown hK hP 0 rfl 16 (by decide) fk_X5_40 (v := .ref (a 11)) rfl dX5_book_27 ?_
        refine lv_iload_n hx hb dX5_book_30 rfl (lv_at hl 3 rfl) ?_
        refine xi_ald hx hb hK hP 11 (f := f11) rfl (i := k) ⟨by omega, by omega⟩ rfl dX5_book_31 ?_
        refine xi_c_ge (tgt := 64) hx hb ⟨by omega, by omega⟩ ⟨by omega, by omega⟩ dX5_book_32 (by decide) (fun z3 => ?_) (fun z3 => ?_)
        · have hjj : (j : Int) = f11 k := by omega
          refine lv_aload_n hx hb dX5_book_64 rfl (lv_at hl 2 rfl) ?_
          refine lv_aload_n hx hb dX5_book_65 rfl (lv_at hl 2 rfl) ?_
          refine xg_X5 hx hb hts hown hK hP 0 rfl 16 (by decide) fk_X5_40 (v := .ref (a 11)) rfl dX5_book_66 ?_
          refine lv_iload_n hx hb dX5_book_69 rfl (lv_at hl 3 rfl) ?_
          refine xi_ald hx hb hK hP 11 (f := f11) rfl (i := k) ⟨by omega, by omega⟩ rfl dX5_book_70 ?_
          refine xm_i (rV (rest := []) hx hb hml hown hts hK hl (c_X5_takesBack l g a (seaN f1 j) f2 f3 f1 f5 f6 l7 f8 f9 f10 f11 (bkT f1 f12 (40 * k) r (((j) : Nat) : Int)) f13 f20 f21 f22 f23 f24 f25 (iI (f11 k)) H.size ) lk_X5_175 ⟨rfl, hP, hD.weaken (fun _ _ _ _ => trivial)⟩ (va_recv hK.1 hP (ci := 5) (q0 := 0) rfl rfl) rfl rfl rfl (Rm.of rfl) rfl rfl dX5_book_71) hD hS hA (fun x9 _ H locs hw hP hD hS => ?_)
          obtain rfl : x9 = (iI (f11 k)) := hw
          have hP : va_P g.1 vwCl (wM g a f1 f2 f3 f1 f5 f6 l7 f8 f9 f10 f11 (bkT f1 f12 (40 * k) r (((j) : Nat) : Int)) f13 f20 f21 f22 f23 f24 f25) H := hP
          have hD : va_D (va_A (wM g a f1 f2 f3 f4 f5 f6 f7 f8 f9 f10 f11 f12 f13 f20 f21 f22 f23 f24 f25) s.heap.size) (wM g a f1 f2 f3 f1 f5 f6 l7 f8 f9 f10 f11 (bkT f1 f12 (40 * k) r (((j) : Nat) : Int)) f13 f20 f21 f22 f23 f24 f25) := hD
          have hf : fBok f1 f10 k r = 0 := by unfold fBok fWro; (repeat (first | rw [if_pos (by omega)] | rw [if_neg (by omega)])); first | done | (exfalso; omega)
          have he5 : f6 = (fb (fBok f1 f10 k r) f6) := by rw [hf]; rfl
          have hP := Eq.mp (congrArg (fun z9 => va_P g.1 vwCl (wM g a f1 f2 f3 f1 f5 z9 l7 f8 f9 f10 f11 (bkT f1 f12 (40 * k) r (((j) : Nat) : Int)) f13 f20 f21 f22 f23 f24 f25) H) he5) hP
          have hD := Eq.mp (congrArg (fun z9 => va_D (va_A (wM g a f1 f2 f3 f4 f5 f6 f7 f8 f9 f10 f11 f12 f13 f20 f21 f22 f23 f24 f25) s.heap.size) (wM g a f1 f2 f3 f1 f5 z9 l7 f8 f9 f10 f11 (bkT f1 f12 (40 * k) r (((j) : Nat) : Int)) f13 f20 f21 f22 f23 f24 f25)) he5) hD
          have he6 : (bkT f1 f12 (40 * k) r (((j) : Nat) : Int)) = (if fBok f1 f10 k r = 0 then bkT f1 f12 (40 * k) r (f11 k) else f12) := by rw [hf, if_pos rfl, hjj]
          have hP := Eq.mp (congrArg (fun z9 => va_P g.1 vwCl (wM g a f1 f2 f3 f1 f5 (fb (fBok f1 f10 k r) f6) l7 f8 f9 f10 f11 z9 f13 f20 f21 f22 f23 f24 f25) H) he6) hP
          have hD := Eq.mp (congrArg (fun z9 => va_D (va_A (wM g a f1 f2 f3 f4 f5 f6 f7 f8 f9 f10 f11 f12 f13 f20 f21 f22 f23 f24 f25) s.heap.size) (wM g a f1 f2 f3 f1 f5 (fb (fBok f1 f10 k r) f6) l7 f8 f9 f10 f11 z9 f13 f20 f21 f22 f23 f24 f25)) he6) hD
          have hP : va_P g.1 vwCl (wM g a f1 f2 f3 ((su (su (fun _ _ => 0) 4 f1) 7 l7) 4) f5 (fb (fBok f1 f10 k r) f6) ((su (su (fun _ _ => 0) 4 f1) 7 l7) 7) f8 f9 f10 f11 (if fBok f1 f10 k r = 0 then bkT f1 f12 (40 * k) r (f11 k) else f12) f13 f20 f21 f22 f23 f24 f25) H := hP
          have hD : va_D (va_A (wM g a f1 f2 f3 f4 f5 f6 f7 f8 f9 f10 f11 f12 f13 f20 f21 f22 f23 f24 f25) s.heap.size) (wM g a f1 f2 f3 ((su (su (fun _ _ => 0) 4 f1) 7 l7) 4) f5 (fb (fBok f1 f10 k r) f6) ((su (su (fun _ _ => 0) 4 f1) 7 l7) 7) f8 f9 f10 f11 (if fBok f1 f10 k r = 0 then bkT f1 f12 (40 * k) r (f11 k) else f12) f13 f20 f21 f22 f23 f24 f25) := hD
          exact W.iret hx hb hr (fun t ht hW => ⟨⟨_, (su (su (fun _ _ => 0) 4 f1) 7 l7), rfl, by rw [hf, ab_0], by rw [ht]; exact hP, hD⟩, hS.F ht⟩) hS.2.2 dX5_book_74
        · have hcr := hsn.1.ran r (by omega) (by omega)
          refine lv_aload_n hx hb dX5_book_35 rfl (lv_at hl 2 rfl) ?_
          refine xg_X5 hx hb hts hown hK hP 0 rfl 17 (by decide) fk_X5_43 (v := .ref (a 12)) rfl dX5_book_36 ?_
          refine lv_bipush (v := iI (40)) hx hb dX5_book_39 (by decide) ?_
          refine lv_iload_n hx hb dX5_book_41 rfl (lv_at hl 3 rfl) ?_
          refine xi_mul hx hb dX5_book_42 ?_
          refine lv_iload hx hb dX5_book_43 (lv_at hl 0 rfl) ?_
          refine xi_add hx hb dX5_book_45 ?_
          refine lv_aload_n hx hb dX5_book_46 rfl (lv_at hl 2 rfl) ?_
          refine lv_iload_n hx hb dX5_book_47 rfl (lv_at hl 4 rfl) ?_
          refine lv_iconst (v := iI (1)) hx hb dX5_book_48 (by decide) ?_
          refine xu_i (x := iI ((seaN f1 j) (61 + 5 * r + 1))) (rV (rest := [.int (iI (40 * k + (j : Int))), .ref (a 12)]) hx hb hml hown hts hK hl (c_X5_its l g a (seaN f1 j) f2 f3 f1 f5 f6 l7 f8 f9 f10 f11 (bkT f1 f12 (40 * k) r (((j) : Nat) : Int)) f13 f20 f21 f22 f23 f24 f25 r 1 (show 0 ≤ 61 + 5 * r + 1 ∧ 61 + 5 * r + 1 < 101 from by omega)) lk_X5_63 hP (va_recv hK.1 hP (ci := 5) (q0 := 0) rfl rfl) rfl rfl rfl (Rm.of rfl) rfl rfl dX5_book_49) ?_
          refine xi_i2l hx hb ⟨by omega, by omega⟩ dX5_book_52 ?_
          refine xl_ast hx hb hK hP hD hS 12 (f := bkT f1 f12 (40 * k) r (((j) : Nat) : Int)) rfl (i := 40 * k + (j : Int)) (v := (seaN f1 j) (61 + 5 * r + 1)) ⟨by omega, by omega⟩ rfl dX5_book_53 (fun H locs hP hD hS => ?_)
          have hP : va_P g.1 vwCl (wM g a (seaN f1 j) f2 f3 f1 f5 f6 l7 f8 f9 f10 f11 (up (bkT f1 f12 (40 * k) r (((j) : Nat) : Int)) (40 * k + (j : Int)) ((seaN f1 j) (61 + 5 * r + 1))) f13 f20 f21 f22 f23 f24 f25) H := hP
          have hD : va_D (va_A (wM g a f1 f2 f3 f4 f5 f6 f7 f8 f9 f10 f11 f12 f13 f20 f21 f22 f23 f24 f25) s.heap.size) (wM g a (seaN f1 j) f2 f3 f1 f5 f6 l7 f8 f9 f10 f11 (up (bkT f1 f12 (40 * k) r (((j) : Nat) : Int)) (40 * k + (j : Int)) ((seaN f1 j) (61 + 5 * r + 1))) f13 f20 f21 f22 f23 f24 f25) := hD
          refine lv_aload_n hx hb dX5_book_54 rfl (lv_at hl 2 rfl) ?_
          refine xm_v (rV (rest := []) hx hb hml hown hts hK hl (c_X5_season l g a (seaN f1 j) f2 f3 f1 f5 f6 l7 f8 f9 f10 f11 (up (bkT f1 f12 (40 * k) r (((j) : Nat) : Int)) (40 * k + (j : Int)) ((seaN f1 j) (61 + 5 * r + 1))) f13 f20 f21 f22 f23 f24 f25 H.size (show InvK 0 (seaN f1 j) from hsn.1) (show (seaN f1 j) 0 < 20000 from by omega)) lk_X5_152 ⟨rfl, hP, hD.weaken (fun _ _ _ _ => trivial)⟩ (va_recv hK.1 hP (ci := 5) (q0 := 0) rfl rfl) rfl rfl rfl (Rm.of rfl) rfl rfl dX5_book_55) hD hS hA (fun u8 H locs hw hP hD hS => ?_)
          have hP : va_P g.1 vwCl (wM g a (sea (seaN f1 j)) f2 f3 f1 f5 f6 (u8 7) f8 f9 f10 f11 (up (bkT f1 f12 (40 * k) r (((j) : Nat) : Int)) (40 * k + (j : Int)) ((seaN f1 j) (61 + 5 * r + 1))) f13 f20 f21 f22 f23 f24 f25) H := hP
          have hD : va_D (va_A (wM g a f1 f2 f3 f4 f5 f6 f7 f8 f9 f10 f11 f12 f13 f20 f21 f22 f23 f24 f25) s.heap.size) (wM g a (sea (seaN f1 j)) f2 f3 f1 f5 f6 (u8 7) f8 f9 f10 f11 (up (bkT f1 f12 (40 * k) r (((j) : Nat) : Int)) (40 * k + (j : Int)) ((seaN f1 j) (61 + 5 * r + 1))) f13 f20 f21 f22 f23 f24 f25) := hD
          refine xi_inc (lv' := [(4, .int (iI ((j : Int) + 1))), (3, .int (iI 0)), (0, .ref (a 0)), (1, .int (iI k)), (2, .int (iI r))]) hx hb dX5_book_58 hl (k := 0) rfl (by decide) rfl (fun ls hl => ?_)
          refine lv_goto (tgt := 24) hx hb dX5_book_61 (by decide) ?_
          have hq9 : ((j : Int) + 1) = ((j + 1) : Int) := by omega
          have hl : lv_has ls 5 [(4, .int (iI ((j : Int) + 1))), (3, .int (iI 0)), (0, .ref (a 0)), (1, .int (iI k)), (2, .int (iI r))] := lv_sub hl [0, 1, 2, 3, 4] rfl
          have hl := Eq.mp (congrArg (fun z9 => lv_has ls 5 [(4, .int (iI z9)), (3, .int (iI 0)), (0, .ref (a 0)), (1, .int (iI k)), (2, .int (iI r))]) hq9) hl
          have hq10 : (sea (seaN f1 j)) = (seaN f1 (j + 1)) := rfl
          have hP := Eq.mp (congrArg (fun z9 => va_P g.1 vwCl (wM g a z9 f2 f3 f1 f5 f6 (u8 7) f8 f9 f10 f11 (up (bkT f1 f12 (40 * k) r (((j) : Nat) : Int)) (40 * k + (j : Int)) ((seaN f1 j) (61 + 5 * r + 1))) f13 f20 f21 f22 f23 f24 f25) H) hq10) hP
          have hD := Eq.mp (congrArg (fun z9 => va_D (va_A (wM g a f1 f2 f3 f4 f5 f6 f7 f8 f9 f10 f11 f12 f13 f20 f21 f22 f23 f24 f25) s.heap.size) (wM g a z9 f2 f3 f1 f5 f6 (u8 7) f8 f9 f10 f11 (up (bkT f1 f12 (40 * k) r (((j) : Nat) : Int)) (40 * k + (j : Int)) ((seaN f1 j) (61 + 5 * r + 1))) f13 f20 f21 f22 f23 f24 f25)) hq10) hD
          have hq11 : (up (bkT f1 f12 (40 * k) r (((j) : Nat) : Int)) (40 * k + (j : Int)) ((seaN f1 j) (61 + 5 * r + 1))) = (bkT f1 f12 (40 * k) r ((((j + 1)) : Nat) : Int)) := bkT_S f1 f12 (40 * k) r j
          have hP := Eq.mp (congrArg (fun z9 => va_P g.1 vwCl (wM g a (seaN f1 (j + 1)) f2 f3 f1 f5 f6 (u8 7) f8 f9 f10 f11 z9 f13 f20 f21 f22 f23 f24 f25) H) hq11) hP
          have hD := Eq.mp (congrArg (fun z9 => va_D (va_A (wM g a f1 f2 f3 f4 f5 f6 f7 f8 f9 f10 f11 f12 f13 f20 f21 f22 f23 f24 f25) s.heap.size) (wM g a (seaN f1 (j + 1)) f2 f3 f1 f5 f6 (u8 7) f8 f9 f10 f11 z9 f13 f20 f21 f22 f23 f24 f25)) hq11) hD
          exact ih24 (j + 1) (u8 7) (by omega) (by omega) (by omega) ls hl H locs hP hD hS
    have hq12 : 0 = (0 : Int) := rfl
    have hl : lv_has ls 5 [(4, .int (iI 0)), (3, .int (iI 0)), (0, .ref (a 0)), (1, .int (iI k)), (2, .int (iI r))] := lv_sub hl [0, 1, 2, 3, 4] rfl
    have hl := Eq.mp (congrArg (fun z9 => lv_has ls 5 [(4, .int (iI z9)), (3, .int (iI 0)), (0, .ref (a 0)), (1, .int (iI k)), (2, .int (iI r))]) hq12) hl
    have hq13 : f1 = (seaN f1 0) := rfl
    have hP := Eq.mp (congrArg (fun z9 => va_P g.1 vwCl (wM g a z9 f2 f3 f1 f5 f6 f7 f8 f9 f10 f11 f12 f13 f20 f21 f22 f23 f24 f25) H) hq13) hP
    have hD := Eq.mp (congrArg (fun z9 => va_D (va_A (wM g a f1 f2 f3 f4 f5 f6 f7 f8 f9 f10 f11 f12 f13 f20 f21 f22 f23 f24 f25) s.heap.size) (wM g a z9 f2 f3 f1 f5 f6 f7 f8 f9 f10 f11 f12 f13 f20 f21 f22 f23 f24 f25)) hq13) hD
    have hq14 : f12 = (bkT f1 f12 (40 * k) r (((0) : Nat) : Int)) := bkT_0 f1 f12 (40 * k) r
    have hP := Eq.mp (congrArg (fun z9 => va_P g.1 vwCl (wM g a (seaN f1 0) f2 f3 f1 f5 f6 f7 f8 f9 f10 f11 z9 f13 f20 f21 f22 f23 f24 f25) H) hq14) hP
    have hD := Eq.mp (congrArg (fun z9 => va_D (va_A (wM g a f1 f2 f3 f4 f5 f6 f7 f8 f9 f10 f11 f12 f13 f20 f21 f22 f23 f24 f25) s.heap.size) (wM g a (seaN f1 0) f2 f3 f1 f5 f6 f7 f8 f9 f10 f11 z9 f13 f20 f21 f22 f23 f24 f25)) hq14) hD
    exact lp24 (40 + 1) 0 f7 (by have := hS9 (by omega) (by omega); omega) (by omega) (by omega) ls hl H locs hP hD hS
  · rw [e1]
    refine lv_istore_n (lv' := [(3, .int (iI (-1000000001))), (0, .ref (a 0)), (1, .int (iI k)), (2, .int (iI r))]) hx hb dX5_book_6 rfl hl (by decide) rfl (fun ls hl => ?_)
    refine lv_iload_n hx hb dX5_book_7 rfl (lv_at hl 0 rfl) ?_
    refine xi_zf_eq hx hb ⟨by decide, by decide⟩ (by decide) dX5_book_8 ⟨17, by decide⟩ ?_
    refine lv_aload_n hx hb dX5_book_11 rfl (lv_at hl 1 rfl) ?_
    refine lv_iload_n hx hb dX5_book_12 rfl (lv_at hl 0 rfl) ?_
    refine xm_i (rV (rest := []) hx hb hml hown hts hK hl (c_X5_finds l g a f1 f2 f3 f4 f5 f6 f7 f8 f9 f10 f11 f12 f13 f20 f21 f22 f23 f24 f25 (-1000000001) (s.heap).size (show 0 ≤ -1000000001 - (-1000000001) ∧ -1000000001 - (-1000000001) < 7 from by omega)) lk_X5_74 ⟨rfl, hP, hD.weaken (fun _ _ _ _ => trivial)⟩ (va_recv hK.1 hP (ci := 5) (q0 := 0) rfl rfl) rfl rfl rfl (Rm.of rfl) rfl rfl dX5_book_13) hD hS hA (fun x9 _ H locs hw hP hD hS => ?_)
    obtain rfl : x9 = iI (-1000000001) := hw
    have hP : va_P g.1 vwCl (wM g a f1 f2 f3 f4 f5 (fb (-1000000000 - (-1000000001)) f6) f7 f8 f9 f10 f11 f12 f13 f20 f21 f22 f23 f24 f25) H := hP
    have hD : va_D (va_A (wM g a f1 f2 f3 f4 f5 f6 f7 f8 f9 f10 f11 f12 f13 f20 f21 f22 f23 f24 f25) s.heap.size) (wM g a f1 f2 f3 f4 f5 (fb (-1000000000 - (-1000000001)) f6) f7 f8 f9 f10 f11 f12 f13 f20 f21 f22 f23 f24 f25) := hD
    have hf : fBok f1 f10 k r = 1 := by unfold fBok fWro; (repeat (first | rw [if_pos (by omega)] | rw [if_neg (by omega)])); first | done | (exfalso; omega)
    have he16 : f12 = (if fBok f1 f10 k r = 0 then bkT f1 f12 (40 * k) r (f11 k) else f12) := by rw [hf]; rfl
    have hP := Eq.mp (congrArg (fun z9 => va_P g.1 vwCl (wM g a f1 f2 f3 f4 f5 (fb (-1000000000 - (-1000000001)) f6) f7 f8 f9 f10 f11 z9 f13 f20 f21 f22 f23 f24 f25) H) he16) hP
    have hD := Eq.mp (congrArg (fun z9 => va_D (va_A (wM g a f1 f2 f3 f4 f5 f6 f7 f8 f9 f10 f11 f12 f13 f20 f21 f22 f23 f24 f25) s.heap.size) (wM g a f1 f2 f3 f4 f5 (fb (-1000000000 - (-1000000001)) f6) f7 f8 f9 f10 f11 z9 f13 f20 f21 f22 f23 f24 f25)) he16) hD
    have he17 : (fb (-1000000000 - (-1000000001)) f6) = (fb (fBok f1 f10 k r) f6) := by rw [hf]; rfl
    have hP := Eq.mp (congrArg (fun z9 => va_P g.1 vwCl (wM g a f1 f2 f3 f4 f5 z9 f7 f8 f9 f10 f11 (if fBok f1 f10 k r = 0 then bkT f1 f12 (40 * k) r (f11 k) else f12) f13 f20 f21 f22 f23 f24 f25) H) he17) hP
    have hD := Eq.mp (congrArg (fun z9 => va_D (va_A (wM g a f1 f2 f3 f4 f5 f6 f7 f8 f9 f10 f11 f12 f13 f20 f21 f22 f23 f24 f25) s.heap.size) (wM g a f1 f2 f3 f4 f5 z9 f7 f8 f9 f10 f11 (if fBok f1 f10 k r = 0 then bkT f1 f12 (40 * k) r (f11 k) else f12) f13 f20 f21 f22 f23 f24 f25)) he17) hD
    have hP : va_P g.1 vwCl (wM g a f1 f2 f3 ((su (su (fun _ _ => 0) 4 f4) 7 f7) 4) f5 (fb (fBok f1 f10 k r) f6) ((su (su (fun _ _ => 0) 4 f4) 7 f7) 7) f8 f9 f10 f11 (if fBok f1 f10 k r = 0 then bkT f1 f12 (40 * k) r (f11 k) else f12) f13 f20 f21 f22 f23 f24 f25) H := hP
    have hD : va_D (va_A (wM g a f1 f2 f3 f4 f5 f6 f7 f8 f9 f10 f11 f12 f13 f20 f21 f22 f23 f24 f25) s.heap.size) (wM g a f1 f2 f3 ((su (su (fun _ _ => 0) 4 f4) 7 f7) 4) f5 (fb (fBok f1 f10 k r) f6) ((su (su (fun _ _ => 0) 4 f4) 7 f7) 7) f8 f9 f10 f11 (if fBok f1 f10 k r = 0 then bkT f1 f12 (40 * k) r (f11 k) else f12) f13 f20 f21 f22 f23 f24 f25) := hD
    exact W.iret hx hb hr (fun t ht hW => ⟨⟨_, (su (su (fun _ _ => 0) 4 f4) 7 f7), rfl, by rw [hf]; rfl, by rw [ht]; exact hP, hD⟩, hS.F ht⟩) hS.2.2 dX5_book_16
  · rw [e1]
    refine lv_istore_n (lv' := [(3, .int (iI (-1000000006))), (0, .ref (a 0)), (1, .int (iI k)), (2, .int (iI r))]) hx hb dX5_book_6 rfl hl (by decide) rfl (fun ls hl => ?_)
    refine lv_iload_n hx hb dX5_book_7 rfl (lv_at hl 0 rfl) ?_
    refine xi_zf_eq hx hb ⟨by decide, by decide⟩ (by decide) dX5_book_8 ⟨17, by decide⟩ ?_
    refine lv_aload_n hx hb dX5_book_11 rfl (lv_at hl 1 rfl) ?_
    refine lv_iload_n hx hb dX5_book_12 rfl (lv_at hl 0 rfl) ?_
    refine xm_i (rV (rest := []) hx hb hml hown hts hK hl (c_X5_finds l g a f1 f2 f3 f4 f5 f6 f7 f8 f9 f10 f11 f12 f13 f20 f21 f22 f23 f24 f25 (-1000000006) (s.heap).size (show 0 ≤ -1000000001 - (-1000000006) ∧ -1000000001 - (-1000000006) < 7 from by omega)) lk_X5_74 ⟨rfl, hP, hD.weaken (fun _ _ _ _ => trivial)⟩ (va_recv hK.1 hP (ci := 5) (q0 := 0) rfl rfl) rfl rfl rfl (Rm.of rfl) rfl rfl dX5_book_13) hD hS hA (fun x9 _ H locs hw hP hD hS => ?_)
    obtain rfl : x9 = iI (-1000000006) := hw
    have hP : va_P g.1 vwCl (wM g a f1 f2 f3 f4 f5 (fb (-1000000000 - (-1000000006)) f6) f7 f8 f9 f10 f11 f12 f13 f20 f21 f22 f23 f24 f25) H := hP
    have hD : va_D (va_A (wM g a f1 f2 f3 f4 f5 f6 f7 f8 f9 f10 f11 f12 f13 f20 f21 f22 f23 f24 f25) s.heap.size) (wM g a f1 f2 f3 f4 f5 (fb (-1000000000 - (-1000000006)) f6) f7 f8 f9 f10 f11 f12 f13 f20 f21 f22 f23 f24 f25) := hD
    have hf : fBok f1 f10 k r = 6 := by unfold fBok fWro; (repeat (first | rw [if_pos (by omega)] | rw [if_neg (by omega)])); first | done | (exfalso; omega)
    have he19 : f12 = (if fBok f1 f10 k r = 0 then bkT f1 f12 (40 * k) r (f11 k) else f12) := by rw [hf]; rfl
    have hP := Eq.mp (congrArg (fun z9 => va_P g.1 vwCl (wM g a f1 f2 f3 f4 f5 (fb (-1000000000 - (-1000000006)) f6) f7 f8 f9 f10 f11 z9 f13 f20 f21 f22 f23 f24 f25) H) he19) hP
    have hD := Eq.mp (congrArg (fun z9 => va_D (va_A (wM g a f1 f2 f3 f4 f5 f6 f7 f8 f9 f10 f11 f12 f13 f20 f21 f22 f23 f24 f25) s.heap.size) (wM g a f1 f2 f3 f4 f5 (fb (-1000000000 - (-1000000006)) f6) f7 f8 f9 f10 f11 z9 f13 f20 f21 f22 f23 f24 f25)) he19) hD
    have he20 : (fb (-1000000000 - (-1000000006)) f6) = (fb (fBok f1 f10 k r) f6) := by rw [hf]; rfl
    have hP := Eq.mp (congrArg (fun z9 => va_P g.1 vwCl (wM g a f1 f2 f3 f4 f5 z9 f7 f8 f9 f10 f11 (if fBok f1 f10 k r = 0 then bkT f1 f12 (40 * k) r (f11 k) else f12) f13 f20 f21 f22 f23 f24 f25) H) he20) hP
    have hD := Eq.mp (congrArg (fun z9 => va_D (va_A (wM g a f1 f2 f3 f4 f5 f6 f7 f8 f9 f10 f11 f12 f13 f20 f21 f22 f23 f24 f25) s.heap.size) (wM g a f1 f2 f3 f4 f5 z9 f7 f8 f9 f10 f11 (if fBok f1 f10 k r = 0 then bkT f1 f12 (40 * k) r (f11 k) else f12) f13 f20 f21 f22 f23 f24 f25)) he20) hD
    have hP : va_P g.1 vwCl (wM g a f1 f2 f3 ((su (su (fun _ _ => 0) 4 f4) 7 f7) 4) f5 (fb (fBok f1 f10 k r) f6) ((su (su (fun _ _ => 0) 4 f4) 7 f7) 7) f8 f9 f10 f11 (if fBok f1 f10 k r = 0 then bkT f1 f12 (40 * k) r (f11 k) else f12) f13 f20 f21 f22 f23 f24 f25) H := hP
    have hD : va_D (va_A (wM g a f1 f2 f3 f4 f5 f6 f7 f8 f9 f10 f11 f12 f13 f20 f21 f22 f23 f24 f25) s.heap.size) (wM g a f1 f2 f3 ((su (su (fun _ _ => 0) 4 f4) 7 f7) 4) f5 (fb (fBok f1 f10 k r) f6) ((su (su (fun _ _ => 0) 4 f4) 7 f7) 7) f8 f9 f10 f11 (if fBok f1 f10 k r = 0 then bkT f1 f12 (40 * k) r (f11 k) else f12) f13 f20 f21 f22 f23 f24 f25) := hD
    exact W.iret hx hb hr (fun t ht hW => ⟨⟨_, (su (su (fun _ _ => 0) 4 f4) 7 f7), rfl, by rw [hf]; rfl, by rw [ht]; exact hP, hD⟩, hS.F ht⟩) hS.2.2 dX5_book_16
  · rw [e1]
    refine lv_istore_n (lv' := [(3, .int (iI (-1000000001))), (0, .ref (a 0)), (1, .int (iI k)), (2, .int (iI r))]) hx hb dX5_book_6 rfl hl (by decide) rfl (fun ls hl => ?_)
    refine lv_iload_n hx hb dX5_book_7 rfl (lv_at hl 0 rfl) ?_
    refine xi_zf_eq hx hb ⟨by decide, by decide⟩ (by decide) dX5_book_8 ⟨17, by decide⟩ ?_
    refine lv_aload_n hx hb dX5_book_11 rfl (lv_at hl 1 rfl) ?_
    refine lv_iload_n hx hb dX5_book_12 rfl (lv_at hl 0 rfl) ?_
    refine xm_i (rV (rest := []) hx hb hml hown hts hK hl (c_X5_finds l g a f1 f2 f3 f4 f5 f6 f7 f8 f9 f10 f11 f12 f13 f20 f21 f22 f23 f24 f25 (-1000000001) (s.heap).size (show 0 ≤ -1000000001 - (-1000000001) ∧ -1000000001 - (-1000000001) < 7 from by omega)) lk_X5_74 ⟨rfl, hP, hD.weaken (fun _ _ _ _ => trivial)⟩ (va_recv hK.1 hP (ci := 5) (q0 := 0) rfl rfl) rfl rfl rfl (Rm.of rfl) rfl rfl dX5_book_13) hD hS hA (fun x9 _ H locs hw hP hD hS => ?_)
    obtain rfl : x9 = iI (-1000000001) := hw
    have hP : va_P g.1 vwCl (wM g a f1 f2 f3 f4 f5 (fb (-1000000000 - (-1000000001)) f6) f7 f8 f9 f10 f11 f12 f13 f20 f21 f22 f23 f24 f25) H := hP
    have hD : va_D (va_A (wM g a f1 f2 f3 f4 f5 f6 f7 f8 f9 f10 f11 f12 f13 f20 f21 f22 f23 f24 f25) s.heap.size) (wM g a f1 f2 f3 f4 f5 (fb (-1000000000 - (-1000000001)) f6) f7 f8 f9 f10 f11 f12 f13 f20 f21 f22 f23 f24 f25) := hD
    have hf : fBok f1 f10 k r = 1 := by unfold fBok fWro; (repeat (first | rw [if_pos (by omega)] | rw [if_neg (by omega)])); first | done | (exfalso; omega)
    have he22 : f12 = (if fBok f1 f10 k r = 0 then bkT f1 f12 (40 * k) r (f11 k) else f12) := by rw [hf]; rfl
    have hP := Eq.mp (congrArg (fun z9 => va_P g.1 vwCl (wM g a f1 f2 f3 f4 f5 (fb (-1000000000 - (-1000000001)) f6) f7 f8 f9 f10 f11 z9 f13 f20 f21 f22 f23 f24 f25) H) he22) hP
    have hD := Eq.mp (congrArg (fun z9 => va_D (va_A (wM g a f1 f2 f3 f4 f5 f6 f7 f8 f9 f10 f11 f12 f13 f20 f21 f22 f23 f24 f25) s.heap.size) (wM g a f1 f2 f3 f4 f5 (fb (-1000000000 - (-1000000001)) f6) f7 f8 f9 f10 f11 z9 f13 f20 f21 f22 f23 f24 f25)) he22) hD
    have he23 : (fb (-1000000000 - (-1000000001)) f6) = (fb (fBok f1 f10 k r) f6) := by rw [hf]; rfl
    have hP := Eq.mp (congrArg (fun z9 => va_P g.1 vwCl (wM g a f1 f2 f3 f4 f5 z9 f7 f8 f9 f10 f11 (if fBok f1 f10 k r = 0 then bkT f1 f12 (40 * k) r (f11 k) else f12) f13 f20 f21 f22 f23 f24 f25) H) he23) hP
    have hD := Eq.mp (congrArg (fun z9 => va_D (va_A (wM g a f1 f2 f3 f4 f5 f6 f7 f8 f9 f10 f11 f12 f13 f20 f21 f22 f23 f24 f25) s.heap.size) (wM g a f1 f2 f3 f4 f5 z9 f7 f8 f9 f10 f11 (if fBok f1 f10 k r = 0 then bkT f1 f12 (40 * k) r (f11 k) else f12) f13 f20 f21 f22 f23 f24 f25)) he23) hD
    have hP : va_P g.1 vwCl (wM g a f1 f2 f3 ((su (su (fun _ _ => 0) 4 f4) 7 f7) 4) f5 (fb (fBok f1 f10 k r) f6) ((su (su (fun _ _ => 0) 4 f4) 7 f7) 7) f8 f9 f10 f11 (if fBok f1 f10 k r = 0 then bkT f1 f12 (40 * k) r (f11 k) else f12) f13 f20 f21 f22 f23 f24 f25) H := hP
    have hD : va_D (va_A (wM g a f1 f2 f3 f4 f5 f6 f7 f8 f9 f10 f11 f12 f13 f20 f21 f22 f23 f24 f25) s.heap.size) (wM g a f1 f2 f3 ((su (su (fun _ _ => 0) 4 f4) 7 f7) 4) f5 (fb (fBok f1 f10 k r) f6) ((su (su (fun _ _ => 0) 4 f4) 7 f7) 7) f8 f9 f10 f11 (if fBok f1 f10 k r = 0 then bkT f1 f12 (40 * k) r (f11 k) else f12) f13 f20 f21 f22 f23 f24 f25) := hD
    exact W.iret hx hb hr (fun t ht hW => ⟨⟨_, (su (su (fun _ _ => 0) 4 f4) 7 f7), rfl, by rw [hf]; rfl, by rw [ht]; exact hP, hD⟩, hS.F ht⟩) hS.2.2 dX5_book_16
abbrev rm_X5_isSo : Room := { frames := 6, cells := 0, slots := 0, locals := 134 }
set_option maxRecDepth 100000 in
set_option maxHeartbeats 4000000 in
theorem c_X5_isSo (l : Launch) (g : Gd) (a : Nat → Nat) (f1 : Int → Int) (f2 : Int → Int) (f3 : Int → Int) (f4 : Int → Int) (f5 : Int → Int) (f6 : Int → Int) (f7 : Int → Int) (f8 : Int → Int) (f9 : Int → Int) (f10 : Int → Int) (f11 : Int → Int) (f12 : Int → Int) (f13 : Int → Int) (f20 : Int) (f21 : Int) (f22 : Int) (f23 : Int) (f24 : Int) (f25 : Int) (k : Int) (r : Int) (sz : Nat) (h1 : InvK 0 f1) (h2 : f1 0 ≤ 9999) (h3 : 0 ≤ k ∧ k ≤ 3) (h4 : 0 ≤ r ∧ r < f1 1) (h5 : 0 ≤ f11 k ∧ f11 k ≤ 40) (h6 : ∀ j, LR (f12 j)) : Met l yX5_isSo (wsOf yX5_isSo cX5_isSo 5 (some .boolean)) rm_X5_isSo (PX g (wP g (wM g a f1 f2 f3 f4 f5 f6 f7 f8 f9 f10 f11 f12 f13 f20 f21 f22 f23 f24 f25) sz) [.ref (a 0), .int (iI k), .int (iI r)]) (QMi g (fun u9 : Nat → Int → Int => wM g a (u9 1) f2 f3 f4 f5 f6 (u9 7) f8 f9 f10 f11 f12 f13 f20 f21 f22 f23 f24 f25) (fun r9 _ => r9 = iI (bI (soT f1 f12 (40 * k) r (Int.toNat (f11 k)) = true))) (va_A (wM g a f1 f2 f3 f4 f5 f6 f7 f8 f9 f10 f11 f12 f13 f20 f21 f22 f23 f24 f25) sz)) 0 0 (va_A (wM g a f1 f2 f3 f4 f5 f6 f7 f8 f9 f10 f11 f12 f13 f20 f21 f22 f23 f24 f25) sz) := by
  refine me (g := g) (by decide) rfl ?_
  intro pq eq s mq below meth cq C hnm hB ls hl
  obtain ⟨hx, hb, hr, hml, hown, hts, hlocks, hK⟩ := C
  have hown : s.vm.findClass RX5 = some mq.cls := hown
  have hl : lv_has ls 5 [(0, .ref (a 0)), (1, .int (iI k)), (2, .int (iI r))] := hl
  obtain ⟨hsz, hP, hD0⟩ := hB
  subst hsz
  have hD := hD0.self (sz := s.heap.size)
  have hA : ∀ q : Nat, s.heap.size ≤ q → va_A (wM g a f1 f2 f3 f4 f5 f6 f7 f8 f9 f10 f11 f12 f13 f20 f21 f22 f23 f24 f25) s.heap.size q := fun q h => Or.inr h
  have hS : va_S (va_A (wM g a f1 f2 f3 f4 f5 f6 f7 f8 f9 f10 f11 f12 f13 f20 f21 f22 f23 f24 f25) s.heap.size) s.heap s.heap [] := va_S.rf
  have hI := h1
  have hn := hI.num
  refine lv_iconst (v := iI (1)) hx hb dX5_isSo_0 (by decide) ?_
  refine lv_istore_n (lv' := [(3, .int (iI 1)), (0, .ref (a 0)), (1, .int (iI k)), (2, .int (iI r))]) hx hb dX5_isSo_1 rfl hl (by decide) rfl (fun ls hl => ?_)
  refine lv_iconst (v := iI (0)) hx hb dX5_isSo_2 (by decide) ?_
  refine lv_istore (lv' := [(4, .int (iI 0)), (3, .int (iI 1)), (0, .ref (a 0)), (1, .int (iI k)), (2, .int (iI r))]) hx hb dX5_isSo_3 hl (by decide) rfl (fun ls hl => ?_)
  have lp5 : ∀ (n5 : Nat) (j : Nat) (is : Int) (l7 : Int → Int), ((j : Int) ≤ f11 k) → ((is = 1 ∧ soT f1 f12 (40 * k) r j = true) ∨ (is = 0 ∧ ¬ soT f1 f12 (40 * k) r (f11 k).toNat = true)) → 40 - j < n5 → ∀ ls : Array Slot, lv_has ls 5 [(4, .int (iI (j : Int))), (3, .int (iI is)), (0, .ref (a 0)), (1, .int (iI k)), (2, .int (iI r))] → ∀ (H : Heap) (locs : List Loc), va_P g.1 vwCl (wM g a (seaN f1 j) f2 f3 f4 f5 f6 l7 f8 f9 f10 f11 f12 f13 f20 f21 f22 f23 f24 f25) H → va_D (va_A (wM g a f1 f2 f3 f4 f5 f6 f7 f8 f9 f10 f11 f12 f13 f20 f21 f22 f23 f24 f25) s.heap.size) (wM g a (seaN f1 j) f2 f3 f4 f5 f6 l7 f8 f9 f10 f11 f12 f13 f20 f21 f22 f23 f24 f25) → va_S (va_A (wM g a f1 f2 f3 f4 f5 f6 f7 f8 f9 f10 f11 f12 f13 f20 f21 f22 f23 f24 f25) s.heap.size) s.heap H locs → W pq l eq rm_X5_isSo s mq [.ref (a 0), .int (iI k), .int (iI r)].toArray below meth cq H locs 0 0 (MQ below (QMi g (fun u9 : Nat → Int → Int => wM g a (u9 1) f2 f3 f4 f5 f6 (u9 7) f8 f9 f10 f11 f12 f13 f20 f21 f22 f23 f24 f25) (fun r9 _ => r9 = iI (bI (soT f1 f12 (40 * k) r (Int.toNat (f11 k)) = true))) (va_A (wM g a f1 f2 f3 f4 f5 f6 f7 f8 f9 f10 f11 f12 f13 f20 f21 f22 f23 f24 f25) s.heap.size)) [.ref (a 0), .int (iI k), .int (iI r)].toArray s 0 0 (va_A (wM g a f1 f2 f3 f4 f5 f6 f7 f8 f9 f10 f11 f12 f13 f20 f21 f22 f23 f24 f25) s.heap.size)) (F0 mq 5 ls []) := by
    intro n5
    induction n5 with
    | zero => intro j is l7 i5_1 i5_2 hm; exact absurd hm (Nat.not_lt_zero _)
    | succ n5 ih5 =>
      intro j is l7 i5_1 i5_2 hm5 ls hl H locs hP hD hS
      have hsn := seaN_inv hI j (by omega)
      have hs0 := hsn.2.1
      have hs1 := hsn.2.2 1 (by omega) (by omega)
      have hcr := hsn.1.ran r (by omega) (by omega)
      have hib : is = 1 ∨ is = 0 := i5_2.elim (fun h => Or.inl h.1) (fun h => Or.inr h.1)
      refine lv_iload hx hb dX5_isSo_5 (lv_at hl 0 rfl) ?_
      refine lv_aload_n hx hb dX5_isSo_7 rfl (lv_at hl 2 rfl) ?_
      refine xg_X5 hx hb hts hown hK hP 0 rfl 16 (by decide) fk_X5_40 (v := .ref (a 11)) rfl dX5_isSo_8 ?_
      refine lv_iload_n hx hb dX5_isSo_11 rfl (lv_at hl 3 rfl) ?_
      refine xi_ald hx hb hK hP 11 (f := f11) rfl (i := k) ⟨by omega, by omega⟩ rfl dX5_isSo_12 ?_
      refine xi_c_ge (tgt := 59) hx hb ⟨by omega, by omega⟩ ⟨by omega, by omega⟩ dX5_isSo_13 (by decide) (fun z1 => ?_) (fun z1 => ?_)
      · have hres : (is = 1 ∧ soT f1 f12 (40 * k) r (f11 k).toNat = true) ∨ (is = 0 ∧ ¬ soT f1 f12 (40 * k) r (f11 k).toNat = true) := i5_2.elim (fun h => Or.inl ⟨h.1, by rw [show (f11 k).toNat = j by omega]; exact h.2⟩) Or.inr
        refine lv_iload_n hx hb dX5_isSo_59 rfl (lv_at hl 1 rfl) ?_
        have hP : va_P g.1 vwCl (wM g a ((su (su (fun _ _ => 0) 1 (seaN f1 j)) 7 l7) 1) f2 f3 f4 f5 f6 ((su (su (fun _ _ => 0) 1 (seaN f1 j)) 7 l7) 7) f8 f9 f10 f11 f12 f13 f20 f21 f22 f23 f24 f25) H := hP
        have hD : va_D (va_A (wM g a f1 f2 f3 f4 f5 f6 f7 f8 f9 f10 f11 f12 f13 f20 f21 f22 f23 f24 f25) s.heap.size) (wM g a ((su (su (fun _ _ => 0) 1 (seaN f1 j)) 7 l7) 1) f2 f3 f4 f5 f6 ((su (su (fun _ _ => 0) 1 (seaN f1 j)) 7 l7) 7) f8 f9 f10 f11 f12 f13 f20 f21 f22 f23 f24 f25) := hD
        exact W.zret hx hb hr (by rcases hib with h | h <;> rw [h] <;> decide) (fun t ht hW => ⟨⟨_, (su (su (fun _ _ => 0) 1 (seaN f1 j)) 7 l7), rfl, hres.elim (fun h => by rw [h.1, bI_t h.2]) (fun h => by rw [h.1, bI_f h.2]), by rw [ht]; exact hP, hD⟩, hS.F ht⟩) hS.2.2 dX5_isSo_60
      · refine lv_iload_n hx hb dX5_isSo_16 rfl (lv_at hl 1 rfl) ?_
        refine xi_z_eq (tgt := 59) hx hb ⟨by omega, by omega⟩ dX5_isSo_17 (by decide) (fun z2 => ?_) (fun z2 => ?_)
        · have hres : (is = 1 ∧ soT f1 f12 (40 * k) r (f11 k).toNat = true) ∨ (is = 0 ∧ ¬ soT f1 f12 (40 * k) r (f11 k).toNat = true) := i5_2.elim (fun h => by have := h.1; omega) Or.inr
          refine lv_iload_n hx hb dX5_isSo_59 rfl (lv_at hl 1 rfl) ?_
          have hP : va_P g.1 vwCl (wM g a ((su (su (fun _ _ => 0) 1 (seaN f1 j)) 7 l7) 1) f2 f3 f4 f5 f6 ((su (su (fun _ _ => 0) 1 (seaN f1 j)) 7 l7) 7) f8 f9 f10 f11 f12 f13 f20 f21 f22 f23 f24 f25) H := hP
          have hD : va_D (va_A (wM g a f1 f2 f3 f4 f5 f6 f7 f8 f9 f10 f11 f12 f13 f20 f21 f22 f23 f24 f25) s.heap.size) (wM g a ((su (su (fun _ _ => 0) 1 (seaN f1 j)) 7 l7) 1) f2 f3 f4 f5 f6 ((su (su (fun _ _ => 0) 1 (seaN f1 j)) 7 l7) 7) f8 f9 f10 f11 f12 f13 f20 f21 f22 f23 f24 f25) := hD
          exact W.zret hx hb hr (by rcases hib with h | h <;> rw [h] <;> decide) (fun t ht hW => ⟨⟨_, (su (su (fun _ _ => 0) 1 (seaN f1 j)) 7 l7), rfl, hres.elim (fun h => by rw [h.1, bI_t h.2]) (fun h => by rw [h.1, bI_f h.2]), by rw [ht]; exact hP, hD⟩, hS.F ht⟩) hS.2.2 dX5_isSo_60
        · have hso : soT f1 f12 (40 * k) r j = true := i5_2.elim (fun h => h.2) (fun h => by have := h.1; omega)
          refine lv_aload_n hx hb dX5_isSo_20 rfl (lv_at hl 2 rfl) ?_
          refine xg_X5 hx hb hts hown hK hP 0 rfl 17 (by decide) fk_X5_43 (v := .ref (a 12)) rfl dX5_isSo_21 ?_
          refine lv_bipush (v := iI (40)) hx hb dX5_isSo_24 (by decide) ?_
          refine lv_iload_n hx hb dX5_isSo_26 rfl (lv_at hl 3 rfl) ?_
          refine xi_mul hx hb dX5_isSo_27 ?_
          refine lv_iload hx hb dX5_isSo_28 (lv_at hl 0 rfl) ?_
          refine xi_add hx hb dX5_isSo_30 ?_
          refine xl_ald hx hb hK hP 12 (f := f12) rfl (i := 40 * k + (j : Int)) ⟨by omega, by omega⟩ rfl dX5_isSo_31 ?_
          refine lv_aload_n hx hb dX5_isSo_32 rfl (lv_at hl 2 rfl) ?_
          refine lv_iload_n hx hb dX5_isSo_33 rfl (lv_at hl 4 rfl) ?_
          refine lv_iconst (v := iI (1)) hx hb dX5_isSo_34 (by decide) ?_
          refine xu_i (x := iI ((seaN f1 j) (61 + 5 * r + 1))) (rV (rest := [.long (lI (f12 (40 * k + (j : Int))))]) hx hb hml hown hts hK hl (c_X5_its l g a (seaN f1 j) f2 f3 f4 f5 f6 l7 f8 f9 f10 f11 f12 f13 f20 f21 f22 f23 f24 f25 r 1 (show 0 ≤ 61 + 5 * r + 1 ∧ 61 + 5 * r + 1 < 101 from by omega)) lk_X5_63 hP (va_recv hK.1 hP (ci := 5) (q0 := 0) rfl rfl) rfl rfl rfl (Rm.of rfl) rfl rfl dX5_isSo_35) ?_
          refine xi_i2l hx hb ⟨by omega, by omega⟩ dX5_isSo_38 ?_
          refine xl_c_ne (tgt := 47) hx hb (h6 _) ⟨by omega, by omega⟩ dX5_isSo_39 dX5_isSo_40 (by decide) (fun z4 => ?_) (fun z4 => ?_)
          · refine lv_iconst (v := iI (0)) hx hb dX5_isSo_47 (by decide) ?_
            refine lv_istore_n (lv' := [(3, .int (iI 0)), (4, .int (iI (j : Int))), (0, .ref (a 0)), (1, .int (iI k)), (2, .int (iI r))]) hx hb dX5_isSo_48 rfl hl (by decide) rfl (fun ls hl => ?_)
            refine lv_aload_n hx hb dX5_isSo_49 rfl (lv_at hl 2 rfl) ?_
            refine xm_v (rV (rest := []) hx hb hml hown hts hK hl (c_X5_season l g a (seaN f1 j) f2 f3 f4 f5 f6 l7 f8 f9 f10 f11 f12 f13 f20 f21 f22 f23 f24 f25 H.size (show InvK 0 (seaN f1 j) from hsn.1) (show (seaN f1 j) 0 < 20000 from by omega)) lk_X5_152 ⟨rfl, hP, hD.weaken (fun _ _ _ _ => trivial)⟩ (va_recv hK.1 hP (ci := 5) (q0 := 0) rfl rfl) rfl rfl rfl (Rm.of rfl) rfl rfl dX5_isSo_50) hD hS hA (fun u5 H locs hw hP hD hS => ?_)
            have hP : va_P g.1 vwCl (wM g a (sea (seaN f1 j)) f2 f3 f4 f5 f6 (u5 7) f8 f9 f10 f11 f12 f13 f20 f21 f22 f23 f24 f25) H := hP
            have hD : va_D (va_A (wM g a f1 f2 f3 f4 f5 f6 f7 f8 f9 f10 f11 f12 f13 f20 f21 f22 f23 f24 f25) s.heap.size) (wM g a (sea (seaN f1 j)) f2 f3 f4 f5 f6 (u5 7) f8 f9 f10 f11 f12 f13 f20 f21 f22 f23 f24 f25) := hD
            refine xi_inc (lv' := [(4, .int (iI ((j : Int) + 1))), (3, .int (iI 0)), (0, .ref (a 0)), (1, .int (iI k)), (2, .int (iI r))]) hx hb dX5_isSo_53 hl (k := 1) rfl (by decide) rfl (fun ls hl => ?_)
            refine lv_goto (tgt := 5) hx hb dX5_isSo_56 (by decide) ?_
            have hq6 : ((j : Int) + 1) = ((j + 1) : Int) := by omega
            have hl : lv_has ls 5 [(4, .int (iI ((j : Int) + 1))), (3, .int (iI 0)), (0, .ref (a 0)), (1, .int (iI k)), (2, .int (iI r))] := lv_sub hl [0, 1, 2, 3, 4] rfl
            have hl := Eq.mp (congrArg (fun z9 => lv_has ls 5 [(4, .int (iI z9)), (3, .int (iI 0)), (0, .ref (a 0)), (1, .int (iI k)), (2, .int (iI r))]) hq6) hl
            have hq7 : (sea (seaN f1 j)) = (seaN f1 (j + 1)) := rfl
            have hP := Eq.mp (congrArg (fun z9 => va_P g.1 vwCl (wM g a z9 f2 f3 f4 f5 f6 (u5 7) f8 f9 f10 f11 f12 f13 f20 f21 f22 f23 f24 f25) H) hq7) hP
            have hD := Eq.mp (congrArg (fun z9 => va_D (va_A (wM g a f1 f2 f3 f4 f5 f6 f7 f8 f9 f10 f11 f12 f13 f20 f21 f22 f23 f24 f25) s.heap.size) (wM g a z9 f2 f3 f4 f5 f6 (u5 7) f8 f9 f10 f11 f12 f13 f20 f21 f22 f23 f24 f25)) hq7) hD
            exact ih5 (j + 1) 0 (u5 7) (by omega) (by first | exact Or.inl ⟨rfl, by simp only [soT, Bool.and_eq_true, decide_eq_true_eq]; exact ⟨hso, by omega⟩⟩ | exact Or.inr ⟨rfl, fun z => by have := soT_le z (show j + 1 ≤ _ by omega); simp only [soT, Bool.and_eq_true, decide_eq_true_eq] at this; omega⟩) (by omega) ls hl H locs hP hD hS
          · refine lv_iconst (v := iI (1)) hx hb dX5_isSo_43 (by decide) ?_
            refine lv_goto (tgt := 48) hx hb dX5_isSo_44 (by decide) ?_
            refine lv_istore_n (lv' := [(3, .int (iI 1)), (4, .int (iI (j : Int))), (0, .ref (a 0)), (1, .int (iI k)), (2, .int (iI r))]) hx hb dX5_isSo_48 rfl hl (by decide) rfl (fun ls hl => ?_)
            refine lv_aload_n hx hb dX5_isSo_49 rfl (lv_at hl 2 rfl) ?_
            refine xm_v (rV (rest := []) hx hb hml hown hts hK hl (c_X5_season l g a (seaN f1 j) f2 f3 f4 f5 f6 l7 f8 f9 f10 f11 f12 f13 f20 f21 f22 f23 f24 f25 H.size (show InvK 0 (seaN f1 j) from hsn.1) (show (seaN f1 j) 0 < 20000 from by omega)) lk_X5_152 ⟨rfl, hP, hD.weaken (fun _ _ _ _ => trivial)⟩ (va_recv hK.1 hP (ci := 5) (q0 := 0) rfl rfl) rfl rfl rfl (Rm.of rfl) rfl rfl dX5_isSo_50) hD hS hA (fun u8 H locs hw hP hD hS => ?_)
            have hP : va_P g.1 vwCl (wM g a (sea (seaN f1 j)) f2 f3 f4 f5 f6 (u8 7) f8 f9 f10 f11 f12 f13 f20 f21 f22 f23 f24 f25) H := hP
            have hD : va_D (va_A (wM g a f1 f2 f3 f4 f5 f6 f7 f8 f9 f10 f11 f12 f13 f20 f21 f22 f23 f24 f25) s.heap.size) (wM g a (sea (seaN f1 j)) f2 f3 f4 f5 f6 (u8 7) f8 f9 f10 f11 f12 f13 f20 f21 f22 f23 f24 f25) := hD
            refine xi_inc (lv' := [(4, .int (iI ((j : Int) + 1))), (3, .int (iI 1)), (0, .ref (a 0)), (1, .int (iI k)), (2, .int (iI r))]) hx hb dX5_isSo_53 hl (k := 1) rfl (by decide) rfl (fun ls hl => ?_)
            refine lv_goto (tgt := 5) hx hb dX5_isSo_56 (by decide) ?_
            have hq9 : ((j : Int) + 1) = ((j + 1) : Int) := by omega
            have hl : lv_has ls 5 [(4, .int (iI ((j : Int) + 1))), (3, .int (iI 1)), (0, .ref (a 0)), (1, .int (iI k)), (2, .int (iI r))] := lv_sub hl [0, 1, 2, 3, 4] rfl
            have hl := Eq.mp (congrArg (fun z9 => lv_has ls 5 [(4, .int (iI z9)), (3, .int (iI 1)), (0, .ref (a 0)), (1, .int (iI k)), (2, .int (iI r))]) hq9) hl
            have hq10 : (sea (seaN f1 j)) = (seaN f1 (j + 1)) := rfl
            have hP := Eq.mp (congrArg (fun z9 => va_P g.1 vwCl (wM g a z9 f2 f3 f4 f5 f6 (u8 7) f8 f9 f10 f11 f12 f13 f20 f21 f22 f23 f24 f25) H) hq10) hP
            have hD := Eq.mp (congrArg (fun z9 => va_D (va_A (wM g a f1 f2 f3 f4 f5 f6 f7 f8 f9 f10 f11 f12 f13 f20 f21 f22 f23 f24 f25) s.heap.size) (wM g a z9 f2 f3 f4 f5 f6 (u8 7) f8 f9 f10 f11 f12 f13 f20 f21 f22 f23 f24 f25)) hq10) hD
            exact ih5 (j + 1) 1 (u8 7) (by omega) (by first | exact Or.inl ⟨rfl, by simp only [soT, Bool.and_eq_true, decide_eq_true_eq]; exact ⟨hso, by omega⟩⟩ | exact Or.inr ⟨rfl, fun z => by have := soT_le z (show j + 1 ≤ _ by omega); simp only [soT, Bool.and_eq_true, decide_eq_true_eq] at this; omega⟩) (by omega) ls hl H locs hP hD hS
  have hq11 : 0 = (0 : Int) := rfl
  have hl : lv_has ls 5 [(4, .int (iI 0)), (3, .int (iI 1)), (0, .ref (a 0)), (1, .int (iI k)), (2, .int (iI r))] := lv_sub hl [0, 1, 2, 3, 4] rfl
  have hl := Eq.mp (congrArg (fun z9 => lv_has ls 5 [(4, .int (iI z9)), (3, .int (iI 1)), (0, .ref (a 0)), (1, .int (iI k)), (2, .int (iI r))]) hq11) hl
  have hq12 : f1 = (seaN f1 0) := rfl
  have hP := Eq.mp (congrArg (fun z9 => va_P g.1 vwCl (wM g a z9 f2 f3 f4 f5 f6 f7 f8 f9 f10 f11 f12 f13 f20 f21 f22 f23 f24 f25) s.heap) hq12) hP
  have hD := Eq.mp (congrArg (fun z9 => va_D (va_A (wM g a f1 f2 f3 f4 f5 f6 f7 f8 f9 f10 f11 f12 f13 f20 f21 f22 f23 f24 f25) s.heap.size) (wM g a z9 f2 f3 f4 f5 f6 f7 f8 f9 f10 f11 f12 f13 f20 f21 f22 f23 f24 f25)) hq12) hD
  exact lp5 (40 + 1) 0 1 f7 (by omega) (Or.inl ⟨rfl, rfl⟩) (by omega) ls hl s.heap [] hP hD hS
abbrev rm_X5_read : Room := { frames := 7, cells := 0, slots := 0, locals := 158 }
set_option maxRecDepth 100000 in
set_option maxHeartbeats 4000000 in
theorem c_X5_read (l : Launch) (g : Gd) (a : Nat → Nat) (f1 : Int → Int) (f2 : Int → Int) (f3 : Int → Int) (f4 : Int → Int) (f5 : Int → Int) (f6 : Int → Int) (f7 : Int → Int) (f8 : Int → Int) (f9 : Int → Int) (f10 : Int → Int) (f11 : Int → Int) (f12 : Int → Int) (f13 : Int → Int) (f20 : Int) (f21 : Int) (f22 : Int) (f23 : Int) (f24 : Int) (f25 : Int) (k : Int) (r : Int) (sz : Nat) (h1 : InvK 0 f1) (h2 : f1 0 ≤ 9999) (h3 : IR k) (h4 : IR r) (h5 : InvS f10 f11) (h6 : ∀ j, LR (f12 j)) : Met l yX5_read (wsOf yX5_read cX5_read 7 (some .int)) rm_X5_read (PX g (wP g (wM g a f1 f2 f3 f4 f5 f6 f7 f8 f9 f10 f11 f12 f13 f20 f21 f22 f23 f24 f25) sz) [.ref (a 0), .int (iI k), .int (iI r)]) (QMi g (fun u9 : Nat → Int → Int => wM g a f1 f2 f3 (u9 4) f5 (fb (fBok f1 f10 k r) f6) (u9 7) f8 f9 f10 f11 f12 f13 f20 f21 f22 f23 f24 f25) (fun r9 _ => r9 = ab (fBok f1 f10 k r) (iI (rdO (rdV f1 f12 (40 * k) r (f11 k)) 10))) (va_A (wM g a f1 f2 f3 f4 f5 f6 f7 f8 f9 f10 f11 f12 f13 f20 f21 f22 f23 f24 f25) sz)) 0 0 (va_A (wM g a f1 f2 f3 f4 f5 f6 f7 f8 f9 f10 f11 f12 f13 f20 f21 f22 f23 f24 f25) sz) := by
  refine me (g := g) (by decide) rfl ?_
  intro pq eq s mq below meth cq C hnm hB ls hl
  obtain ⟨hx, hb, hr, hml, hown, hts, hlocks, hK⟩ := C
  have hown : s.vm.findClass RX5 = some mq.cls := hown
  have hl : lv_has ls 7 [(0, .ref (a 0)), (1, .int (iI k)), (2, .int (iI r))] := hl
  obtain ⟨hsz, hP, hD0⟩ := hB
  subst hsz
  have hD := hD0.self (sz := s.heap.size)
  have hA : ∀ q : Nat, s.heap.size ≤ q → va_A (wM g a f1 f2 f3 f4 f5 f6 f7 f8 f9 f10 f11 f12 f13 f20 f21 f22 f23 f24 f25) s.heap.size q := fun q h => Or.inr h
  have hS : va_S (va_A (wM g a f1 f2 f3 f4 f5 f6 f7 f8 f9 f10 f11 f12 f13 f20 f21 f22 f23 f24 f25) s.heap.size) s.heap s.heap [] := va_S.rf
  have hI := h1
  have hI8 : Inv f1 := h1.mono (by omega)
  have hn := hI.num
  have hs := hI.sea
  have hv := hI.vil
  have q1 := h3.1
  have q3 := h4.1
  have q2 := h3.2
  have q4 := h4.2
  have hS9 := h5 k
  refine lv_aload_n hx hb dX5_read_0 rfl (lv_at hl 0 rfl) ?_
  refine lv_iload_n hx hb dX5_read_1 rfl (lv_at hl 1 rfl) ?_
  refine lv_iload_n hx hb dX5_read_2 rfl (lv_at hl 2 rfl) ?_
  refine xu_i (x := iI (abL (fBok f1 f10 k r) 0)) (rV (rest := []) hx hb hml hown hts hK hl (c_X5_wrongBook l g a f1 f2 f3 f4 f5 f6 f7 f8 f9 f10 f11 f12 f13 f20 f21 f22 f23 f24 f25 k r (show IR k from ⟨by omega, by omega⟩) (show InvS f10 f11 from h5) (show IR r from ⟨by omega, by omega⟩) (show 0 ≤ f1 1 ∧ f1 1 ≤ 8 from by omega)) lk_X5_324 hP (va_recv hK.1 hP (ci := 5) (q0 := 0) rfl rfl) rfl rfl rfl (Rm.of rfl) rfl rfl dX5_read_3) ?_
  rcases (show ((((0 ≤ k ∧ k ≤ 3) ∧ ¬ f10 k = 0) ∧ 0 ≤ r ∧ r < f1 1) ∧ abL (fBok f1 f10 k r) 0 = 0) ∨ ((¬ (0 ≤ k ∧ k ≤ 3)) ∧ abL (fBok f1 f10 k r) 0 = -1000000001) ∨ (((0 ≤ k ∧ k ≤ 3) ∧ f10 k = 0) ∧ abL (fBok f1 f10 k r) 0 = -1000000006) ∨ ((((0 ≤ k ∧ k ≤ 3) ∧ ¬ f10 k = 0) ∧ ¬ (0 ≤ r ∧ r < f1 1)) ∧ abL (fBok f1 f10 k r) 0 = -1000000001) from bokC f1 f10 k r) with ⟨z1, e1⟩ | ⟨z1, e1⟩ | ⟨z1, e1⟩ | ⟨z1, e1⟩
  · rw [e1]
    refine lv_istore_n (lv' := [(3, .int (iI 0)), (0, .ref (a 0)), (1, .int (iI k)), (2, .int (iI r))]) hx hb dX5_read_6 rfl hl (by decide) rfl (fun ls hl => ?_)
    refine lv_iload_n hx hb dX5_read_7 rfl (lv_at hl 0 rfl) ?_
    refine xi_zt_eq (tgt := 17) hx hb ⟨by decide, by decide⟩ (by decide) dX5_read_8 (by decide) ?_
    refine lv_aload_n hx hb dX5_read_17 rfl (lv_at hl 1 rfl) ?_
    refine xm_v (rV (rest := []) hx hb hml hown hts hK hl (c_X5_laysAside l g a f1 f2 f3 f4 f5 f6 f7 f8 f9 f10 f11 f12 f13 f20 f21 f22 f23 f24 f25 (s.heap).size ) lk_X5_172 ⟨rfl, hP, hD.weaken (fun _ _ _ _ => trivial)⟩ (va_recv hK.1 hP (ci := 5) (q0 := 0) rfl rfl) rfl rfl rfl (Rm.of rfl) rfl rfl dX5_read_18) hD hS hA (fun _ H locs hw hP hD hS => ?_)
    have hP : va_P g.1 vwCl (wM g a f1 f2 f3 f1 f5 f6 f7 f8 f9 f10 f11 f12 f13 f20 f21 f22 f23 f24 f25) H := hP
    have hD : va_D (va_A (wM g a f1 f2 f3 f4 f5 f6 f7 f8 f9 f10 f11 f12 f13 f20 f21 f22 f23 f24 f25) s.heap.size) (wM g a f1 f2 f3 f1 f5 f6 f7 f8 f9 f10 f11 f12 f13 f20 f21 f22 f23 f24 f25) := hD
    refine lv_iconst (v := iI (0)) hx hb dX5_read_21 (by decide) ?_
    refine lv_istore (lv' := [(4, .int (iI 0)), (3, .int (iI 0)), (0, .ref (a 0)), (1, .int (iI k)), (2, .int (iI r))]) hx hb dX5_read_22 hl (by decide) rfl (fun ls hl => ?_)
    refine lv_iconst (v := iI (0)) hx hb dX5_read_24 (by decide) ?_
    refine lv_istore (lv' := [(5, .int (iI 0)), (4, .int (iI 0)), (3, .int (iI 0)), (0, .ref (a 0)), (1, .int (iI k)), (2, .int (iI r))]) hx hb dX5_read_25 hl (by decide) rfl (fun ls hl => ?_)
    have lp27 : ∀ (n27 : Nat) (h : Nat) (l7 : Int → Int), (h ≤ 10) → ((0 ≤ k ∧ k ≤ 3 ∧ ¬ f10 k = 0) ∧ 0 ≤ r ∧ r < f1 1) → 10 - h < n27 → ∀ ls : Array Slot, lv_has ls 7 [(5, .int (iI (h : Int))), (4, .int (iI (rdO (rdV f1 f12 (40 * k) r (f11 k)) h))), (3, .int (iI 0)), (0, .ref (a 0)), (1, .int (iI k)), (2, .int (iI r))] → ∀ (H : Heap) (locs : List Loc), va_P g.1 vwCl (wM g a f1 f2 f3 f1 f5 f6 l7 f8 f9 f10 f11 f12 f13 f20 f21 f22 f23 f24 f25) H → va_D (va_A (wM g a f1 f2 f3 f4 f5 f6 f7 f8 f9 f10 f11 f12 f13 f20 f21 f22 f23 f24 f25) s.heap.size) (wM g a f1 f2 f3 f1 f5 f6 l7 f8 f9 f10 f11 f12 f13 f20 f21 f22 f23 f24 f25) → va_S (va_A (wM g a f1 f2 f3 f4 f5 f6 f7 f8 f9 f10 f11 f12 f13 f20 f21 f22 f23 f24 f25) s.heap.size) s.heap H locs → W pq l eq rm_X5_read s mq [.ref (a 0), .int (iI k), .int (iI r)].toArray below meth cq H locs 0 0 (MQ below (QMi g (fun u9 : Nat → Int → Int => wM g a f1 f2 f3 (u9 4) f5 (fb (fBok f1 f10 k r) f6) (u9 7) f8 f9 f10 f11 f12 f13 f20 f21 f22 f23 f24 f25) (fun r9 _ => r9 = ab (fBok f1 f10 k r) (iI (rdO (rdV f1 f12 (40 * k) r (f11 k)) 10))) (va_A (wM g a f1 f2 f3 f4 f5 f6 f7 f8 f9 f10 f11 f12 f13 f20 f21 f22 f23 f24 f25) s.heap.size)) [.ref (a 0), .int (iI k), .int (iI r)].toArray s 0 0 (va_A (wM g a f1 f2 f3 f4 f5 f6 f7 f8 f9 f10 f11 f12 f13 f20 f21 f22 f23 f24 f25) s.heap.size)) (F0 mq 27 ls []) := by
      intro n27
      induction n27 with
      | zero => intro h l7 i27_1 i27_2 hm; exact absurd hm (Nat.not_lt_zero _)
      | succ n27 ih27 =>
        intro h l7 i27_1 i27_2 hm27 ls hl H locs hP hD hS
        refine lv_iload hx hb dX5_read_27 (lv_at hl 0 rfl) ?_
        refine lv_bipush (v := iI (9)) hx hb dX5_read_29 (by decide) ?_
        refine xi_c_gt (tgt := 100) hx hb ⟨by omega, by omega⟩ ⟨by decide, by decide⟩ dX5_read_31 (by decide) (fun z3 => ?_) (fun z3 => ?_)
        · refine lv_iload hx hb dX5_read_100 (lv_at hl 1 rfl) ?_
          have hf : fBok f1 f10 k r = 0 := by unfold fBok fWro; (repeat (first | rw [if_pos (by omega)] | rw [if_neg (by omega)])); first | done | (exfalso; omega)
          have he4 : f6 = (fb (fBok f1 f10 k r) f6) := by rw [hf]; rfl
          have hP := Eq.mp (congrArg (fun z9 => va_P g.1 vwCl (wM g a f1 f2 f3 f1 f5 z9 l7 f8 f9 f10 f11 f12 f13 f20 f21 f22 f23 f24 f25) H) he4) hP
          have hD := Eq.mp (congrArg (fun z9 => va_D (va_A (wM g a f1 f2 f3 f4 f5 f6 f7 f8 f9 f10 f11 f12 f13 f20 f21 f22 f23 f24 f25) s.heap.size) (wM g a f1 f2 f3 f1 f5 z9 l7 f8 f9 f10 f11 f12 f13 f20 f21 f22 f23 f24 f25)) he4) hD
          have hP : va_P g.1 vwCl (wM g a f1 f2 f3 ((su (su (fun _ _ => 0) 4 f1) 7 l7) 4) f5 (fb (fBok f1 f10 k r) f6) ((su (su (fun _ _ => 0) 4 f1) 7 l7) 7) f8 f9 f10 f11 f12 f13 f20 f21 f22 f23 f24 f25) H := hP
          have hD : va_D (va_A (wM g a f1 f2 f3 f4 f5 f6 f7 f8 f9 f10 f11 f12 f13 f20 f21 f22 f23 f24 f25) s.heap.size) (wM g a f1 f2 f3 ((su (su (fun _ _ => 0) 4 f1) 7 l7) 4) f5 (fb (fBok f1 f10 k r) f6) ((su (su (fun _ _ => 0) 4 f1) 7 l7) 7) f8 f9 f10 f11 f12 f13 f20 f21 f22 f23 f24 f25) := hD
          exact W.iret hx hb hr (fun t ht hW => ⟨⟨_, (su (su (fun _ _ => 0) 4 f1) 7 l7), rfl, by rw [hf, ab_0, show h = 10 by omega], by rw [ht]; exact hP, hD⟩, hS.F ht⟩) hS.2.2 dX5_read_102
        · refine lv_bipush (v := iI (-9)) hx hb dX5_read_34 (by decide) ?_
          refine lv_istore (lv' := [(6, .int (iI (-9))), (5, .int (iI (h : Int))), (4, .int (iI (rdO (rdV f1 f12 (40 * k) r (f11 k)) h))), (3, .int (iI 0)), (0, .ref (a 0)), (1, .int (iI k)), (2, .int (iI r))]) hx hb dX5_read_36 hl (by decide) rfl (fun ls hl => ?_)
          have lp38 : ∀ (n38 : Nat) (w : Nat) (m7 : Int → Int), (w ≤ 19) → 19 - w < n38 → ∀ ls : Array Slot, lv_has ls 7 [(6, .int (iI ((w : Int) - 9))), (5, .int (iI (h : Int))), (4, .int (iI (rdI (rdV f1 f12 (40 * k) r (f11 k)) h (rdO (rdV f1 f12 (40 * k) r (f11 k)) h) w))), (3, .int (iI 0)), (0, .ref (a 0)), (1, .int (iI k)), (2, .int (iI r))] → ∀ (H : Heap) (locs : List Loc), va_P g.1 vwCl (wM g a f1 f2 f3 f1 f5 f6 m7 f8 f9 f10 f11 f12 f13 f20 f21 f22 f23 f24 f25) H → va_D (va_A (wM g a f1 f2 f3 f4 f5 f6 f7 f8 f9 f10 f11 f12 f13 f20 f21 f22 f23 f24 f25) s.heap.size) (wM g a f1 f2 f3 f1 f5 f6 m7 f8 f9 f10 f11 f12 f13 f20 f21 f22 f23 f24 f25) → va_S (va_A (wM g a f1 f2 f3 f4 f5 f6 f7 f8 f9 f10 f11 f12 f13 f20 f21 f22 f23 f24 f25) s.heap.size) s.heap H locs → W pq l eq rm_X5_read s mq [.ref (a 0), .int (iI k), .int (iI r)].toArray below meth cq H locs 0 0 (MQ below (QMi g (fun u9 : Nat → Int → Int => wM g a f1 f2 f3 (u9 4) f5 (fb (fBok f1 f10 k r) f6) (u9 7) f8 f9 f10 f11 f12 f13 f20 f21 f22 f23 f24 f25) (fun r9 _ => r9 = ab (fBok f1 f10 k r) (iI (rdO (rdV f1 f12 (40 * k) r (f11 k)) 10))) (va_A (wM g a f1 f2 f3 f4 f5 f6 f7 f8 f9 f10 f11 f12 f13 f20 f21 f22 f23 f24 f25) s.heap.size)) [.ref (a 0), .int (iI k), .int (iI r)].toArray s 0 0 (va_A (wM g a f1 f2 f3 f4 f5 f6 f7 f8 f9 f10 f11 f12 f13 f20 f21 f22 f23 f24 f25) s.heap.size)) (F0 mq 38 ls []) := by
            intro n38
            induction n38 with
            | zero => intro w m7 i38_1 hm; exact absurd hm (Nat.not_lt_zero _)
            | succ n38 ih38 =>
              intro w m7 i38_1 hm38 ls hl H locs hP hD hS
              refine lv_iload hx hb dX5_read_38 (lv_at hl 0 rfl) ?_
              refine lv_bipush (v := iI (9)) hx hb dX5_read_40 (by decide) ?_
              refine xi_c_gt (tgt := 94) hx hb ⟨by omega, by omega⟩ ⟨by decide, by decide⟩ dX5_read_42 (by decide) (fun z5 => ?_) (fun z5 => ?_)
              · refine xi_inc (lv' := [(5, .int (iI ((h : Int) + 1))), (6, .int (iI ((w : Int) - 9))), (4, .int (iI (rdI (rdV f1 f12 (40 * k) r (f11 k)) h (rdO (rdV f1 f12 (40 * k) r (f11 k)) h) w))), (3, .int (iI 0)), (0, .ref (a 0)), (1, .int (iI k)), (2, .int (iI r))]) hx hb dX5_read_94 hl (k := 1) rfl (by decide) rfl (fun ls hl => ?_)
                refine lv_goto (tgt := 27) hx hb dX5_read_97 (by decide) ?_
                have hq6 : ((h : Int) + 1) = ((h + 1) : Int) := by omega
                have hq7 : (rdI (rdV f1 f12 (40 * k) r (f11 k)) h (rdO (rdV f1 f12 (40 * k) r (f11 k)) h) w) = (rdO (rdV f1 f12 (40 * k) r (f11 k)) (h + 1)) := by show _ = rdI (rdV f1 f12 (40 * k) r (f11 k)) h (rdO (rdV f1 f12 (40 * k) r (f11 k)) h) 19; rw [show w = 19 by omega]
                have hl : lv_has ls 7 [(5, .int (iI ((h : Int) + 1))), (4, .int (iI (rdI (rdV f1 f12 (40 * k) r (f11 k)) h (rdO (rdV f1 f12 (40 * k) r (f11 k)) h) w))), (3, .int (iI 0)), (0, .ref (a 0)), (1, .int (iI k)), (2, .int (iI r))] := lv_sub hl [0, 2, 3, 4, 5, 6] rfl
                have hl := Eq.mp (congrArg (fun z9 => lv_has ls 7 [(5, .int (iI z9)), (4, .int (iI (rdI (rdV f1 f12 (40 * k) r (f11 k)) h (rdO (rdV f1 f12 (40 * k) r (f11 k)) h) w))), (3, .int (iI 0)), (0, .ref (a 0)), (1, .int (iI k)), (2, .int (iI r))]) hq6) hl
                have hl := Eq.mp (congrArg (fun z9 => lv_has ls 7 [(5, .int (iI ((h + 1) : Int))), (4, .int (iI z9)), (3, .int (iI 0)), (0, .ref (a 0)), (1, .int (iI k)), (2, .int (iI r))]) hq7) hl
                exact ih27 (h + 1) m7 (by omega) (by omega) (by omega) ls hl H locs hP hD hS
              · have hIu : InvK 0 (up (up f1 (61 + 5 * r + 2) (h : Int)) 3 ((w : Int) - 9)) := (hI.oth (k2 := 0) (r := r) (w := 2) (v := (h : Int)) (by omega) (by omega) (by omega) (by omega) (by omega) ⟨by omega, by omega, by omega, by omega⟩).wgt (w := 0) (v := (w : Int) - 9) (by omega) (by omega) (by omega)
                refine lv_aload_n hx hb dX5_read_45 rfl (lv_at hl 4 rfl) ?_
                refine xg_X5 hx hb hts hown hK hP 0 rfl 0 (by decide) fk_X5_7 (v := .ref (a 1)) rfl dX5_read_46 ?_
                refine lv_iload_n hx hb dX5_read_49 rfl (lv_at hl 6 rfl) ?_
                refine lv_iconst (v := iI (2)) hx hb dX5_read_50 (by decide) ?_
                refine xu_i (x := iI (61 + 5 * r + 2)) (rS (rest := [.ref (a 1)]) hx hb hml hown hts hK hl (c_X5_spot l g r 2 ) lk_X5_59 trivial rfl rfl rfl (Rm.of rfl) rfl rfl dX5_read_51) ?_
                refine lv_iload hx hb dX5_read_54 (lv_at hl 1 rfl) ?_
                refine xi_ast hx hb hK hP hD hS 1 (f := f1) rfl (i := 61 + 5 * r + 2) (v := (h : Int)) ⟨by omega, by omega⟩ rfl dX5_read_56 (fun H locs hP hD hS => ?_)
                have hP : va_P g.1 vwCl (wM g a (up f1 (61 + 5 * r + 2) (h : Int)) f2 f3 f1 f5 f6 m7 f8 f9 f10 f11 f12 f13 f20 f21 f22 f23 f24 f25) H := hP
                have hD : va_D (va_A (wM g a f1 f2 f3 f4 f5 f6 f7 f8 f9 f10 f11 f12 f13 f20 f21 f22 f23 f24 f25) s.heap.size) (wM g a (up f1 (61 + 5 * r + 2) (h : Int)) f2 f3 f1 f5 f6 m7 f8 f9 f10 f11 f12 f13 f20 f21 f22 f23 f24 f25) := hD
                refine lv_aload_n hx hb dX5_read_57 rfl (lv_at hl 4 rfl) ?_
                refine xg_X5 hx hb hts hown hK hP 0 rfl 0 (by decide) fk_X5_7 (v := .ref (a 1)) rfl dX5_read_58 ?_
                refine lv_iconst (v := iI (3)) hx hb dX5_read_61 (by decide) ?_
                refine lv_iload hx hb dX5_read_62 (lv_at hl 0 rfl) ?_
                refine xi_ast hx hb hK hP hD hS 1 (f := up f1 (61 + 5 * r + 2) (h : Int)) rfl (i := 3) (v := (w : Int) - 9) ⟨by omega, by omega⟩ rfl dX5_read_64 (fun H locs hP hD hS => ?_)
                have hP : va_P g.1 vwCl (wM g a (up (up f1 (61 + 5 * r + 2) (h : Int)) 3 ((w : Int) - 9)) f2 f3 f1 f5 f6 m7 f8 f9 f10 f11 f12 f13 f20 f21 f22 f23 f24 f25) H := hP
                have hD : va_D (va_A (wM g a f1 f2 f3 f4 f5 f6 f7 f8 f9 f10 f11 f12 f13 f20 f21 f22 f23 f24 f25) s.heap.size) (wM g a (up (up f1 (61 + 5 * r + 2) (h : Int)) 3 ((w : Int) - 9)) f2 f3 f1 f5 f6 m7 f8 f9 f10 f11 f12 f13 f20 f21 f22 f23 f24 f25) := hD
                refine lv_iload hx hb dX5_read_65 (lv_at hl 2 rfl) ?_
                refine lv_aload_n hx hb dX5_read_67 rfl (lv_at hl 4 rfl) ?_
                refine lv_aload_n hx hb dX5_read_68 rfl (lv_at hl 4 rfl) ?_
                refine lv_iload_n hx hb dX5_read_69 rfl (lv_at hl 5 rfl) ?_
                refine lv_iload_n hx hb dX5_read_70 rfl (lv_at hl 6 rfl) ?_
                refine xm_i (rV (rest := [.ref (a 0), .int (iI (rdI (rdV f1 f12 (40 * k) r (f11 k)) h (rdO (rdV f1 f12 (40 * k) r (f11 k)) h) w))]) hx hb hml hown hts hK hl (c_X5_isSo l g a (up (up f1 (61 + 5 * r + 2) (h : Int)) 3 ((w : Int) - 9)) f2 f3 f1 f5 f6 m7 f8 f9 f10 f11 f12 f13 f20 f21 f22 f23 f24 f25 k r H.size (show InvK 0 (up (up f1 (61 + 5 * r + 2) (h : Int)) 3 ((w : Int) - 9)) from hIu) (show (up (up f1 (61 + 5 * r + 2) (h : Int)) 3 ((w : Int) - 9)) 0 ≤ 9999 from by rw [up_n (by omega), up_n (by omega)]; omega) (show 0 ≤ k ∧ k ≤ 3 from by omega) (show 0 ≤ r ∧ r < (up (up f1 (61 + 5 * r + 2) (h : Int)) 3 ((w : Int) - 9)) 1 from ⟨by omega, by rw [up_n (by omega), up_n (by omega)]; omega⟩) (show 0 ≤ f11 k ∧ f11 k ≤ 40 from by have := hS9 (by omega) (by omega); omega) (show ∀ j, LR (f12 j) from h6)) lk_X5_327 ⟨rfl, hP, hD.weaken (fun _ _ _ _ => trivial)⟩ (va_recv hK.1 hP (ci := 5) (q0 := 0) rfl rfl) rfl rfl rfl (Rm.of rfl) rfl rfl dX5_read_71) hD hS hA (fun x9 u9 H locs hw hP hD hS => ?_)
                obtain rfl : x9 = iI (bI (soT (up (up f1 (61 + 5 * r + 2) (h : Int)) 3 ((w : Int) - 9)) f12 (40 * k) r (Int.toNat (f11 k)) = true)) := hw
                have hP : va_P g.1 vwCl (wM g a (u9 1) f2 f3 f1 f5 f6 (u9 7) f8 f9 f10 f11 f12 f13 f20 f21 f22 f23 f24 f25) H := hP
                have hD : va_D (va_A (wM g a f1 f2 f3 f4 f5 f6 f7 f8 f9 f10 f11 f12 f13 f20 f21 f22 f23 f24 f25) s.heap.size) (wM g a (u9 1) f2 f3 f1 f5 f6 (u9 7) f8 f9 f10 f11 f12 f13 f20 f21 f22 f23 f24 f25) := hD
                rcases bI_or (soT (up (up f1 (61 + 5 * r + 2) (h : Int)) 3 ((w : Int) - 9)) f12 (40 * k) r (Int.toNat (f11 k)) = true) with ⟨z9, e9⟩ | ⟨z9, e9⟩
                · rw [e9]
                  refine xi_zf_eq hx hb ⟨by decide, by decide⟩ (by decide) dX5_read_74 ⟨81, by decide⟩ ?_
                  refine lv_iconst (v := iI (1)) hx hb dX5_read_77 (by decide) ?_
                  refine lv_goto (tgt := 82) hx hb dX5_read_78 (by decide) ?_
                  refine xm_i (rV (rest := [.int (iI (rdI (rdV f1 f12 (40 * k) r (f11 k)) h (rdO (rdV f1 f12 (40 * k) r (f11 k)) h) w))]) hx hb hml hown hts hK hl (c_X5_takesBack l g a (u9 1) f2 f3 f1 f5 f6 (u9 7) f8 f9 f10 f11 f12 f13 f20 f21 f22 f23 f24 f25 (iI 1) H.size ) lk_X5_175 ⟨rfl, hP, hD.weaken (fun _ _ _ _ => trivial)⟩ (va_recv hK.1 hP (ci := 5) (q0 := 0) rfl rfl) rfl rfl rfl (Rm.of rfl) rfl rfl dX5_read_82) hD hS hA (fun x9 _ H locs hw hP hD hS => ?_)
                  obtain rfl : x9 = (iI 1) := hw
                  have hP : va_P g.1 vwCl (wM g a f1 f2 f3 f1 f5 f6 (u9 7) f8 f9 f10 f11 f12 f13 f20 f21 f22 f23 f24 f25) H := hP
                  have hD : va_D (va_A (wM g a f1 f2 f3 f4 f5 f6 f7 f8 f9 f10 f11 f12 f13 f20 f21 f22 f23 f24 f25) s.heap.size) (wM g a f1 f2 f3 f1 f5 f6 (u9 7) f8 f9 f10 f11 f12 f13 f20 f21 f22 f23 f24 f25) := hD
                  refine xi_add hx hb dX5_read_85 ?_
                  refine lv_istore (lv' := [(4, .int (iI (rdI (rdV f1 f12 (40 * k) r (f11 k)) h (rdO (rdV f1 f12 (40 * k) r (f11 k)) h) w + 1))), (6, .int (iI ((w : Int) - 9))), (5, .int (iI (h : Int))), (3, .int (iI 0)), (0, .ref (a 0)), (1, .int (iI k)), (2, .int (iI r))]) hx hb dX5_read_86 hl (by decide) rfl (fun ls hl => ?_)
                  refine xi_inc (lv' := [(6, .int (iI ((w : Int) - 9 + 1))), (4, .int (iI (rdI (rdV f1 f12 (40 * k) r (f11 k)) h (rdO (rdV f1 f12 (40 * k) r (f11 k)) h) w + 1))), (5, .int (iI (h : Int))), (3, .int (iI 0)), (0, .ref (a 0)), (1, .int (iI k)), (2, .int (iI r))]) hx hb dX5_read_88 hl (k := 1) rfl (by decide) rfl (fun ls hl => ?_)
                  refine lv_goto (tgt := 38) hx hb dX5_read_91 (by decide) ?_
                  have hq11 : ((w : Int) - 9 + 1) = (((w + 1) : Int) - 9) := by omega
                  have hq12 : (rdI (rdV f1 f12 (40 * k) r (f11 k)) h (rdO (rdV f1 f12 (40 * k) r (f11 k)) h) w + 1) = (rdI (rdV f1 f12 (40 * k) r (f11 k)) h (rdO (rdV f1 f12 (40 * k) r (f11 k)) h) (w + 1)) := by show _ = rdI (rdV f1 f12 (40 * k) r (f11 k)) h (rdO (rdV f1 f12 (40 * k) r (f11 k)) h) w + (rdV f1 f12 (40 * k) r (f11 k)) h w; unfold rdV; first | (rw [if_pos (by assumption)]; done) | (rw [if_neg (by assumption)]; done)
                  have hl : lv_has ls 7 [(6, .int (iI ((w : Int) - 9 + 1))), (5, .int (iI (h : Int))), (4, .int (iI (rdI (rdV f1 f12 (40 * k) r (f11 k)) h (rdO (rdV f1 f12 (40 * k) r (f11 k)) h) w + 1))), (3, .int (iI 0)), (0, .ref (a 0)), (1, .int (iI k)), (2, .int (iI r))] := lv_sub hl [0, 2, 1, 3, 4, 5, 6] rfl
                  have hl := Eq.mp (congrArg (fun z9 => lv_has ls 7 [(6, .int (iI z9)), (5, .int (iI (h : Int))), (4, .int (iI (rdI (rdV f1 f12 (40 * k) r (f11 k)) h (rdO (rdV f1 f12 (40 * k) r (f11 k)) h) w + 1))), (3, .int (iI 0)), (0, .ref (a 0)), (1, .int (iI k)), (2, .int (iI r))]) hq11) hl
                  have hl := Eq.mp (congrArg (fun z9 => lv_has ls 7 [(6, .int (iI (((w + 1) : Int) - 9))), (5, .int (iI (h : Int))), (4, .int (iI z9)), (3, .int (iI 0)), (0, .ref (a 0)), (1, .int (iI k)), (2, .int (iI r))]) hq12) hl
                  exact ih38 (w + 1) (u9 7) (by omega) (by omega) ls hl H locs hP hD hS
                · rw [e9]
                  refine xi_zt_eq (tgt := 81) hx hb ⟨by decide, by decide⟩ (by decide) dX5_read_74 (by decide) ?_
                  refine lv_iconst (v := iI (0)) hx hb dX5_read_81 (by decide) ?_
                  refine xm_i (rV (rest := [.int (iI (rdI (rdV f1 f12 (40 * k) r (f11 k)) h (rdO (rdV f1 f12 (40 * k) r (f11 k)) h) w))]) hx hb hml hown hts hK hl (c_X5_takesBack l g a (u9 1) f2 f3 f1 f5 f6 (u9 7) f8 f9 f10 f11 f12 f13 f20 f21 f22 f23 f24 f25 (iI 0) H.size ) lk_X5_175 ⟨rfl, hP, hD.weaken (fun _ _ _ _ => trivial)⟩ (va_recv hK.1 hP (ci := 5) (q0 := 0) rfl rfl) rfl rfl rfl (Rm.of rfl) rfl rfl dX5_read_82) hD hS hA (fun x9 _ H locs hw hP hD hS => ?_)
                  obtain rfl : x9 = (iI 0) := hw
                  have hP : va_P g.1 vwCl (wM g a f1 f2 f3 f1 f5 f6 (u9 7) f8 f9 f10 f11 f12 f13 f20 f21 f22 f23 f24 f25) H := hP
                  have hD : va_D (va_A (wM g a f1 f2 f3 f4 f5 f6 f7 f8 f9 f10 f11 f12 f13 f20 f21 f22 f23 f24 f25) s.heap.size) (wM g a f1 f2 f3 f1 f5 f6 (u9 7) f8 f9 f10 f11 f12 f13 f20 f21 f22 f23 f24 f25) := hD
                  refine xi_add hx hb dX5_read_85 ?_
                  refine lv_istore (lv' := [(4, .int (iI (rdI (rdV f1 f12 (40 * k) r (f11 k)) h (rdO (rdV f1 f12 (40 * k) r (f11 k)) h) w + 0))), (6, .int (iI ((w : Int) - 9))), (5, .int (iI (h : Int))), (3, .int (iI 0)), (0, .ref (a 0)), (1, .int (iI k)), (2, .int (iI r))]) hx hb dX5_read_86 hl (by decide) rfl (fun ls hl => ?_)
                  refine xi_inc (lv' := [(6, .int (iI ((w : Int) - 9 + 1))), (4, .int (iI (rdI (rdV f1 f12 (40 * k) r (f11 k)) h (rdO (rdV f1 f12 (40 * k) r (f11 k)) h) w + 0))), (5, .int (iI (h : Int))), (3, .int (iI 0)), (0, .ref (a 0)), (1, .int (iI k)), (2, .int (iI r))]) hx hb dX5_read_88 hl (k := 1) rfl (by decide) rfl (fun ls hl => ?_)
                  refine lv_goto (tgt := 38) hx hb dX5_read_91 (by decide) ?_
                  have hq14 : ((w : Int) - 9 + 1) = (((w + 1) : Int) - 9) := by omega
                  have hq15 : (rdI (rdV f1 f12 (40 * k) r (f11 k)) h (rdO (rdV f1 f12 (40 * k) r (f11 k)) h) w + 0) = (rdI (rdV f1 f12 (40 * k) r (f11 k)) h (rdO (rdV f1 f12 (40 * k) r (f11 k)) h) (w + 1)) := by show _ = rdI (rdV f1 f12 (40 * k) r (f11 k)) h (rdO (rdV f1 f12 (40 * k) r (f11 k)) h) w + (rdV f1 f12 (40 * k) r (f11 k)) h w; unfold rdV; first | (rw [if_pos (by assumption)]; done) | (rw [if_neg (by assumption)]; done)
                  have hl : lv_has ls 7 [(6, .int (iI ((w : Int) - 9 + 1))), (5, .int (iI (h : Int))), (4, .int (iI (rdI (rdV f1 f12 (40 * k) r (f11 k)) h (rdO (rdV f1 f12 (40 * k) r (f11 k)) h) w + 0))), (3, .int (iI 0)), (0, .ref (a 0)), (1, .int (iI k)), (2, .int (iI r))] := lv_sub hl [0, 2, 1, 3, 4, 5, 6] rfl
                  have hl := Eq.mp (congrArg (fun z9 => lv_has ls 7 [(6, .int (iI z9)), (5, .int (iI (h : Int))), (4, .int (iI (rdI (rdV f1 f12 (40 * k) r (f11 k)) h (rdO (rdV f1 f12 (40 * k) r (f11 k)) h) w + 0))), (3, .int (iI 0)), (0, .ref (a 0)), (1, .int (iI k)), (2, .int (iI r))]) hq14) hl
                  have hl := Eq.mp (congrArg (fun z9 => lv_has ls 7 [(6, .int (iI (((w + 1) : Int) - 9))), (5, .int (iI (h : Int))), (4, .int (iI z9)), (3, .int (iI 0)), (0, .ref (a 0)), (1, .int (iI k)), (2, .int (iI r))]) hq15) hl
                  exact ih38 (w + 1) (u9 7) (by omega) (by omega) ls hl H locs hP hD hS
          have hq16 : (-9) = ((0 : Int) - 9) := rfl
          have hq17 : (rdO (rdV f1 f12 (40 * k) r (f11 k)) h) = (rdI (rdV f1 f12 (40 * k) r (f11 k)) h (rdO (rdV f1 f12 (40 * k) r (f11 k)) h) 0) := rfl
          have hl : lv_has ls 7 [(6, .int (iI (-9))), (5, .int (iI (h : Int))), (4, .int (iI (rdO (rdV f1 f12 (40 * k) r (f11 k)) h))), (3, .int (iI 0)), (0, .ref (a 0)), (1, .int (iI k)), (2, .int (iI r))] := lv_sub hl [0, 1, 2, 3, 4, 5, 6] rfl
          have hl := Eq.mp (congrArg (fun z9 => lv_has ls 7 [(6, .int (iI z9)), (5, .int (iI (h : Int))), (4, .int (iI (rdO (rdV f1 f12 (40 * k) r (f11 k)) h))), (3, .int (iI 0)), (0, .ref (a 0)), (1, .int (iI k)), (2, .int (iI r))]) hq16) hl
          have hl := Eq.mp (congrArg (fun z9 => lv_has ls 7 [(6, .int (iI ((0 : Int) - 9))), (5, .int (iI (h : Int))), (4, .int (iI z9)), (3, .int (iI 0)), (0, .ref (a 0)), (1, .int (iI k)), (2, .int (iI r))]) hq17) hl
          exact lp38 (19 + 1) 0 l7 (by omega) (by omega) ls hl H locs hP hD hS
    have hq18 : 0 = (0 : Int) := rfl
    have hq19 : 0 = (rdO (rdV f1 f12 (40 * k) r (f11 k)) 0) := rfl
    have hl : lv_has ls 7 [(5, .int (iI 0)), (4, .int (iI 0)), (3, .int (iI 0)), (0, .ref (a 0)), (1, .int (iI k)), (2, .int (iI r))] := lv_sub hl [0, 1, 2, 3, 4, 5] rfl
    have hl := Eq.mp (congrArg (fun z9 => lv_has ls 7 [(5, .int (iI z9)), (4, .int (iI 0)), (3, .int (iI 0)), (0, .ref (a 0)), (1, .int (iI k)), (2, .int (iI r))]) hq18) hl
    have hl := Eq.mp (congrArg (fun z9 => lv_has ls 7 [(5, .int (iI (0 : Int))), (4, .int (iI z9)), (3, .int (iI 0)), (0, .ref (a 0)), (1, .int (iI k)), (2, .int (iI r))]) hq19) hl
    exact lp27 (10 + 1) 0 f7 (by omega) (by omega) (by omega) ls hl H locs hP hD hS
  · rw [e1]
    refine lv_istore_n (lv' := [(3, .int (iI (-1000000001))), (0, .ref (a 0)), (1, .int (iI k)), (2, .int (iI r))]) hx hb dX5_read_6 rfl hl (by decide) rfl (fun ls hl => ?_)
    refine lv_iload_n hx hb dX5_read_7 rfl (lv_at hl 0 rfl) ?_
    refine xi_zf_eq hx hb ⟨by decide, by decide⟩ (by decide) dX5_read_8 ⟨17, by decide⟩ ?_
    refine lv_aload_n hx hb dX5_read_11 rfl (lv_at hl 1 rfl) ?_
    refine lv_iload_n hx hb dX5_read_12 rfl (lv_at hl 0 rfl) ?_
    refine xm_i (rV (rest := []) hx hb hml hown hts hK hl (c_X5_finds l g a f1 f2 f3 f4 f5 f6 f7 f8 f9 f10 f11 f12 f13 f20 f21 f22 f23 f24 f25 (-1000000001) (s.heap).size (show 0 ≤ -1000000001 - (-1000000001) ∧ -1000000001 - (-1000000001) < 7 from by omega)) lk_X5_74 ⟨rfl, hP, hD.weaken (fun _ _ _ _ => trivial)⟩ (va_recv hK.1 hP (ci := 5) (q0 := 0) rfl rfl) rfl rfl rfl (Rm.of rfl) rfl rfl dX5_read_13) hD hS hA (fun x9 _ H locs hw hP hD hS => ?_)
    obtain rfl : x9 = iI (-1000000001) := hw
    have hP : va_P g.1 vwCl (wM g a f1 f2 f3 f4 f5 (fb (-1000000000 - (-1000000001)) f6) f7 f8 f9 f10 f11 f12 f13 f20 f21 f22 f23 f24 f25) H := hP
    have hD : va_D (va_A (wM g a f1 f2 f3 f4 f5 f6 f7 f8 f9 f10 f11 f12 f13 f20 f21 f22 f23 f24 f25) s.heap.size) (wM g a f1 f2 f3 f4 f5 (fb (-1000000000 - (-1000000001)) f6) f7 f8 f9 f10 f11 f12 f13 f20 f21 f22 f23 f24 f25) := hD
    have hf : fBok f1 f10 k r = 1 := by unfold fBok fWro; (repeat (first | rw [if_pos (by omega)] | rw [if_neg (by omega)])); first | done | (exfalso; omega)
    have he21 : (fb (-1000000000 - (-1000000001)) f6) = (fb (fBok f1 f10 k r) f6) := by rw [hf]; rfl
    have hP := Eq.mp (congrArg (fun z9 => va_P g.1 vwCl (wM g a f1 f2 f3 f4 f5 z9 f7 f8 f9 f10 f11 f12 f13 f20 f21 f22 f23 f24 f25) H) he21) hP
    have hD := Eq.mp (congrArg (fun z9 => va_D (va_A (wM g a f1 f2 f3 f4 f5 f6 f7 f8 f9 f10 f11 f12 f13 f20 f21 f22 f23 f24 f25) s.heap.size) (wM g a f1 f2 f3 f4 f5 z9 f7 f8 f9 f10 f11 f12 f13 f20 f21 f22 f23 f24 f25)) he21) hD
    have hP : va_P g.1 vwCl (wM g a f1 f2 f3 ((su (su (fun _ _ => 0) 4 f4) 7 f7) 4) f5 (fb (fBok f1 f10 k r) f6) ((su (su (fun _ _ => 0) 4 f4) 7 f7) 7) f8 f9 f10 f11 f12 f13 f20 f21 f22 f23 f24 f25) H := hP
    have hD : va_D (va_A (wM g a f1 f2 f3 f4 f5 f6 f7 f8 f9 f10 f11 f12 f13 f20 f21 f22 f23 f24 f25) s.heap.size) (wM g a f1 f2 f3 ((su (su (fun _ _ => 0) 4 f4) 7 f7) 4) f5 (fb (fBok f1 f10 k r) f6) ((su (su (fun _ _ => 0) 4 f4) 7 f7) 7) f8 f9 f10 f11 f12 f13 f20 f21 f22 f23 f24 f25) := hD
    exact W.iret hx hb hr (fun t ht hW => ⟨⟨_, (su (su (fun _ _ => 0) 4 f4) 7 f7), rfl, by rw [hf]; rfl, by rw [ht]; exact hP, hD⟩, hS.F ht⟩) hS.2.2 dX5_read_16
  · rw [e1]
    refine lv_istore_n (lv' := [(3, .int (iI (-1000000006))), (0, .ref (a 0)), (1, .int (iI k)), (2, .int (iI r))]) hx hb dX5_read_6 rfl hl (by decide) rfl (fun ls hl => ?_)
    refine lv_iload_n hx hb dX5_read_7 rfl (lv_at hl 0 rfl) ?_
    refine xi_zf_eq hx hb ⟨by decide, by decide⟩ (by decide) dX5_read_8 ⟨17, by decide⟩ ?_
    refine lv_aload_n hx hb dX5_read_11 rfl (lv_at hl 1 rfl) ?_
    refine lv_iload_n hx hb dX5_read_12 rfl (lv_at hl 0 rfl) ?_
    refine xm_i (rV (rest := []) hx hb hml hown hts hK hl (c_X5_finds l g a f1 f2 f3 f4 f5 f6 f7 f8 f9 f10 f11 f12 f13 f20 f21 f22 f23 f24 f25 (-1000000006) (s.heap).size (show 0 ≤ -1000000001 - (-1000000006) ∧ -1000000001 - (-1000000006) < 7 from by omega)) lk_X5_74 ⟨rfl, hP, hD.weaken (fun _ _ _ _ => trivial)⟩ (va_recv hK.1 hP (ci := 5) (q0 := 0) rfl rfl) rfl rfl rfl (Rm.of rfl) rfl rfl dX5_read_13) hD hS hA (fun x9 _ H locs hw hP hD hS => ?_)
    obtain rfl : x9 = iI (-1000000006) := hw
    have hP : va_P g.1 vwCl (wM g a f1 f2 f3 f4 f5 (fb (-1000000000 - (-1000000006)) f6) f7 f8 f9 f10 f11 f12 f13 f20 f21 f22 f23 f24 f25) H := hP
    have hD : va_D (va_A (wM g a f1 f2 f3 f4 f5 f6 f7 f8 f9 f10 f11 f12 f13 f20 f21 f22 f23 f24 f25) s.heap.size) (wM g a f1 f2 f3 f4 f5 (fb (-1000000000 - (-1000000006)) f6) f7 f8 f9 f10 f11 f12 f13 f20 f21 f22 f23 f24 f25) := hD
    have hf : fBok f1 f10 k r = 6 := by unfold fBok fWro; (repeat (first | rw [if_pos (by omega)] | rw [if_neg (by omega)])); first | done | (exfalso; omega)
    have he23 : (fb (-1000000000 - (-1000000006)) f6) = (fb (fBok f1 f10 k r) f6) := by rw [hf]; rfl
    have hP := Eq.mp (congrArg (fun z9 => va_P g.1 vwCl (wM g a f1 f2 f3 f4 f5 z9 f7 f8 f9 f10 f11 f12 f13 f20 f21 f22 f23 f24 f25) H) he23) hP
    have hD := Eq.mp (congrArg (fun z9 => va_D (va_A (wM g a f1 f2 f3 f4 f5 f6 f7 f8 f9 f10 f11 f12 f13 f20 f21 f22 f23 f24 f25) s.heap.size) (wM g a f1 f2 f3 f4 f5 z9 f7 f8 f9 f10 f11 f12 f13 f20 f21 f22 f23 f24 f25)) he23) hD
    have hP : va_P g.1 vwCl (wM g a f1 f2 f3 ((su (su (fun _ _ => 0) 4 f4) 7 f7) 4) f5 (fb (fBok f1 f10 k r) f6) ((su (su (fun _ _ => 0) 4 f4) 7 f7) 7) f8 f9 f10 f11 f12 f13 f20 f21 f22 f23 f24 f25) H := hP
    have hD : va_D (va_A (wM g a f1 f2 f3 f4 f5 f6 f7 f8 f9 f10 f11 f12 f13 f20 f21 f22 f23 f24 f25) s.heap.size) (wM g a f1 f2 f3 ((su (su (fun _ _ => 0) 4 f4) 7 f7) 4) f5 (fb (fBok f1 f10 k r) f6) ((su (su (fun _ _ => 0) 4 f4) 7 f7) 7) f8 f9 f10 f11 f12 f13 f20 f21 f22 f23 f24 f25) := hD
    exact W.iret hx hb hr (fun t ht hW => ⟨⟨_, (su (su (fun _ _ => 0) 4 f4) 7 f7), rfl, by rw [hf]; rfl, by rw [ht]; exact hP, hD⟩, hS.F ht⟩) hS.2.2 dX5_read_16
  · rw [e1]
    refine lv_istore_n (lv' := [(3, .int (iI (-1000000001))), (0, .ref (a 0)), (1, .int (iI k)), (2, .int (iI r))]) hx hb dX5_read_6 rfl hl (by decide) rfl (fun ls hl => ?_)
    refine lv_iload_n hx hb dX5_read_7 rfl (lv_at hl 0 rfl) ?_
    refine xi_zf_eq hx hb ⟨by decide, by decide⟩ (by decide) dX5_read_8 ⟨17, by decide⟩ ?_
    refine lv_aload_n hx hb dX5_read_11 rfl (lv_at hl 1 rfl) ?_
    refine lv_iload_n hx hb dX5_read_12 rfl (lv_at hl 0 rfl) ?_
    refine xm_i (rV (rest := []) hx hb hml hown hts hK hl (c_X5_finds l g a f1 f2 f3 f4 f5 f6 f7 f8 f9 f10 f11 f12 f13 f20 f21 f22 f23 f24 f25 (-1000000001) (s.heap).size (show 0 ≤ -1000000001 - (-1000000001) ∧ -1000000001 - (-1000000001) < 7 from by omega)) lk_X5_74 ⟨rfl, hP, hD.weaken (fun _ _ _ _ => trivial)⟩ (va_recv hK.1 hP (ci := 5) (q0 := 0) rfl rfl) rfl rfl rfl (Rm.of rfl) rfl rfl dX5_read_13) hD hS hA (fun x9 _ H locs hw hP hD hS => ?_)
    obtain rfl : x9 = iI (-1000000001) := hw
    have hP : va_P g.1 vwCl (wM g a f1 f2 f3 f4 f5 (fb (-1000000000 - (-1000000001)) f6) f7 f8 f9 f10 f11 f12 f13 f20 f21 f22 f23 f24 f25) H := hP
    have hD : va_D (va_A (wM g a f1 f2 f3 f4 f5 f6 f7 f8 f9 f10 f11 f12 f13 f20 f21 f22 f23 f24 f25) s.heap.size) (wM g a f1 f2 f3 f4 f5 (fb (-1000000000 - (-1000000001)) f6) f7 f8 f9 f10 f11 f12 f13 f20 f21 f22 f23 f24 f25) := hD
    have hf : fBok f1 f10 k r = 1 := by unfold fBok fWro; (repeat (first | rw [if_pos (by omega)] | rw [if_neg (by omega)])); first | done | (exfalso; omega)
    have he25 : (fb (-1000000000 - (-1000000001)) f6) = (fb (fBok f1 f10 k r) f6) := by rw [hf]; rfl
    have hP := Eq.mp (congrArg (fun z9 => va_P g.1 vwCl (wM g a f1 f2 f3 f4 f5 z9 f7 f8 f9 f10 f11 f12 f13 f20 f21 f22 f23 f24 f25) H) he25) hP
    have hD := Eq.mp (congrArg (fun z9 => va_D (va_A (wM g a f1 f2 f3 f4 f5 f6 f7 f8 f9 f10 f11 f12 f13 f20 f21 f22 f23 f24 f25) s.heap.size) (wM g a f1 f2 f3 f4 f5 z9 f7 f8 f9 f10 f11 f12 f13 f20 f21 f22 f23 f24 f25)) he25) hD
    have hP : va_P g.1 vwCl (wM g a f1 f2 f3 ((su (su (fun _ _ => 0) 4 f4) 7 f7) 4) f5 (fb (fBok f1 f10 k r) f6) ((su (su (fun _ _ => 0) 4 f4) 7 f7) 7) f8 f9 f10 f11 f12 f13 f20 f21 f22 f23 f24 f25) H := hP
    have hD : va_D (va_A (wM g a f1 f2 f3 f4 f5 f6 f7 f8 f9 f10 f11 f12 f13 f20 f21 f22 f23 f24 f25) s.heap.size) (wM g a f1 f2 f3 ((su (su (fun _ _ => 0) 4 f4) 7 f7) 4) f5 (fb (fBok f1 f10 k r) f6) ((su (su (fun _ _ => 0) 4 f4) 7 f7) 7) f8 f9 f10 f11 f12 f13 f20 f21 f22 f23 f24 f25) := hD
    exact W.iret hx hb hr (fun t ht hW => ⟨⟨_, (su (su (fun _ _ => 0) 4 f4) 7 f7), rfl, by rw [hf]; rfl, by rw [ht]; exact hP, hD⟩, hS.F ht⟩) hS.2.2 dX5_read_16
abbrev rm_X5_feed : Room := { frames := 1, cells := 0, slots := 0, locals := 25 }
set_option maxRecDepth 100000 in
set_option maxHeartbeats 4000000 in
theorem c_X5_feed (l : Launch) (g : Gd) (a : Nat → Nat) (f1 : Int → Int) (f2 : Int → Int) (f3 : Int → Int) (f4 : Int → Int) (f5 : Int → Int) (f6 : Int → Int) (f7 : Int → Int) (f8 : Int → Int) (f9 : Int → Int) (f10 : Int → Int) (f11 : Int → Int) (f12 : Int → Int) (f13 : Int → Int) (f20 : Int) (f21 : Int) (f22 : Int) (f23 : Int) (f24 : Int) (f25 : Int) (b : Int) (n : Int) (sz : Nat) (h1 : InvK 0 f1) (h2 : f1 0 ≤ 9999) (h3 : IR b) (h4 : IR n) (h5 : 0 ≤ f21 ∧ f21 ≤ 120) : Met l yX5_feed (wsOf yX5_feed cX5_feed 4 (some .int)) rm_X5_feed (PX g (wP g (wM g a f1 f2 f3 f4 f5 f6 f7 f8 f9 f10 f11 f12 f13 f20 f21 f22 f23 f24 f25) sz) [.ref (a 0), .int (iI b), .int (iI n)]) (QMi g (fun _ : Unit => wM g a f1 f2 f3 f4 f5 (fb (fFed f21 n) f6) f7 f8 (if fFed f21 n = 0 then fdT f9 f21 b n n else f9) f10 f11 f12 f13 f20 (if fFed f21 n = 0 then f21 + n else f21) f22 f23 f24 f25) (fun r9 _ => r9 = ab (fFed f21 n) (iI (f21 + n))) (va_A (wM g a f1 f2 f3 f4 f5 f6 f7 f8 f9 f10 f11 f12 f13 f20 f21 f22 f23 f24 f25) sz)) 0 0 (va_A (wM g a f1 f2 f3 f4 f5 f6 f7 f8 f9 f10 f11 f12 f13 f20 f21 f22 f23 f24 f25) sz) := by
  refine me (g := g) (by decide) rfl ?_
  intro pq eq s mq below meth cq C hnm hB ls hl
  obtain ⟨hx, hb, hr, hml, hown, hts, hlocks, hK⟩ := C
  have hown : s.vm.findClass RX5 = some mq.cls := hown
  have hl : lv_has ls 4 [(0, .ref (a 0)), (1, .int (iI b)), (2, .int (iI n))] := hl
  obtain ⟨hsz, hP, hD0⟩ := hB
  subst hsz
  have hD := hD0.self (sz := s.heap.size)
  have hA : ∀ q : Nat, s.heap.size ≤ q → va_A (wM g a f1 f2 f3 f4 f5 f6 f7 f8 f9 f10 f11 f12 f13 f20 f21 f22 f23 f24 f25) s.heap.size q := fun q h => Or.inr h
  have hS : va_S (va_A (wM g a f1 f2 f3 f4 f5 f6 f7 f8 f9 f10 f11 f12 f13 f20 f21 f22 f23 f24 f25) s.heap.size) s.heap s.heap [] := va_S.rf
  have hI := h1
  have hI8 : Inv f1 := h1.mono (by omega)
  have hn := hI.num
  have hs := hI.sea
  have hv := hI.vil
  have q1 := h3.1
  have q3 := h4.1
  have q2 := h3.2
  have q4 := h4.2
  refine lv_iload_n hx hb dX5_feed_0 rfl (lv_at hl 2 rfl) ?_
  refine xi_i2l hx hb ⟨by omega, by omega⟩ dX5_feed_1 ?_
  refine lv_lconst (v := lI (1)) hx hb dX5_feed_2 (by decide) ?_
  refine xl_ldc hx hb hown hts kk_X5_204 dX5_feed_3 ?_
  refine xu_b (P := 1 ≤ n ∧ n ≤ 4) (rS (rest := []) hx hb hml hown hts hK hl (c_X5_in l g n 1 4 (show LR n from ⟨by omega, by omega⟩) (show LR 1 from ⟨by omega, by omega⟩) (show LR 4 from ⟨by omega, by omega⟩)) lk_X5_53 trivial rfl rfl rfl (Rm.of rfl) rfl rfl dX5_feed_6) (fun z1 => ?_) (fun z1 => ?_)
  · refine xi_zt_ne (tgt := 19) hx hb ⟨by decide, by decide⟩ (by decide) dX5_feed_9 (by decide) ?_
    refine lv_aload_n hx hb dX5_feed_19 rfl (lv_at hl 0 rfl) ?_
    refine xg_X5 hx hb hts hown hK hP 0 rfl 10 (by decide) fk_X5_206 (v := .int (iI f21)) rfl dX5_feed_20 ?_
    refine lv_iload_n hx hb dX5_feed_23 rfl (lv_at hl 2 rfl) ?_
    refine xi_add hx hb dX5_feed_24 ?_
    refine lv_bipush (v := iI (120)) hx hb dX5_feed_25 (by decide) ?_
    refine xi_c_le (tgt := 37) hx hb ⟨by omega, by omega⟩ ⟨by decide, by decide⟩ dX5_feed_27 (by decide) (fun z2 => ?_) (fun z2 => ?_)
    · refine lv_iload_n hx hb dX5_feed_37 rfl (lv_at hl 2 rfl) ?_
      refine lv_iconst (v := iI (1)) hx hb dX5_feed_38 (by decide) ?_
      refine xi_sub hx hb dX5_feed_39 ?_
      refine lv_istore_n (lv' := [(3, .int (iI (n - 1))), (0, .ref (a 0)), (1, .int (iI b)), (2, .int (iI n))]) hx hb dX5_feed_40 rfl hl (by decide) rfl (fun ls hl => ?_)
      have lp41 : ∀ (n41 : Nat) (i : Int), (0 ≤ i ∧ i ≤ n) → (n - i).toNat < n41 → ∀ ls : Array Slot, lv_has ls 4 [(3, .int (iI (n - 1 - i))), (0, .ref (a 0)), (1, .int (iI b)), (2, .int (iI n))] → ∀ (H : Heap) (locs : List Loc), va_P g.1 vwCl (wM g a f1 f2 f3 f4 f5 f6 f7 f8 (fdT f9 f21 b n i) f10 f11 f12 f13 f20 (f21 + i) f22 f23 f24 f25) H → va_D (va_A (wM g a f1 f2 f3 f4 f5 f6 f7 f8 f9 f10 f11 f12 f13 f20 f21 f22 f23 f24 f25) s.heap.size) (wM g a f1 f2 f3 f4 f5 f6 f7 f8 (fdT f9 f21 b n i) f10 f11 f12 f13 f20 (f21 + i) f22 f23 f24 f25) → va_S (va_A (wM g a f1 f2 f3 f4 f5 f6 f7 f8 f9 f10 f11 f12 f13 f20 f21 f22 f23 f24 f25) s.heap.size) s.heap H locs → W pq l eq rm_X5_feed s mq [.ref (a 0), .int (iI b), .int (iI n)].toArray below meth cq H locs 0 0 (MQ below (QMi g (fun _ : Unit => wM g a f1 f2 f3 f4 f5 (fb (fFed f21 n) f6) f7 f8 (if fFed f21 n = 0 then fdT f9 f21 b n n else f9) f10 f11 f12 f13 f20 (if fFed f21 n = 0 then f21 + n else f21) f22 f23 f24 f25) (fun r9 _ => r9 = ab (fFed f21 n) (iI (f21 + n))) (va_A (wM g a f1 f2 f3 f4 f5 f6 f7 f8 f9 f10 f11 f12 f13 f20 f21 f22 f23 f24 f25) s.heap.size)) [.ref (a 0), .int (iI b), .int (iI n)].toArray s 0 0 (va_A (wM g a f1 f2 f3 f4 f5 f6 f7 f8 f9 f10 f11 f12 f13 f20 f21 f22 f23 f24 f25) s.heap.size)) (F0 mq 41 ls []) := by
        intro n41
        induction n41 with
        | zero => intro i i41_1 hm; exact absurd hm (Nat.not_lt_zero _)
        | succ n41 ih41 =>
          intro i i41_1 hm41 ls hl H locs hP hD hS
          refine lv_iload_n hx hb dX5_feed_41 rfl (lv_at hl 0 rfl) ?_
          refine xi_z_lt (tgt := 80) hx hb ⟨by omega, by omega⟩ dX5_feed_42 (by decide) (fun z3 => ?_) (fun z3 => ?_)
          · refine lv_aload_n hx hb dX5_feed_80 rfl (lv_at hl 1 rfl) ?_
            refine xg_X5 hx hb hts hown hK hP 0 rfl 10 (by decide) fk_X5_206 (v := .int (iI (f21 + i))) rfl dX5_feed_81 ?_
            have hf : fFed f21 n = 0 := by unfold fFed; (repeat (first | rw [if_pos (by omega)] | rw [if_neg (by omega)])); first | done | (exfalso; omega)
            have he4 : (fdT f9 f21 b n i) = (if fFed f21 n = 0 then fdT f9 f21 b n n else f9) := by rw [hf, if_pos rfl, show i = n by omega]
            have hP := Eq.mp (congrArg (fun z9 => va_P g.1 vwCl (wM g a f1 f2 f3 f4 f5 f6 f7 f8 z9 f10 f11 f12 f13 f20 (f21 + i) f22 f23 f24 f25) H) he4) hP
            have hD := Eq.mp (congrArg (fun z9 => va_D (va_A (wM g a f1 f2 f3 f4 f5 f6 f7 f8 f9 f10 f11 f12 f13 f20 f21 f22 f23 f24 f25) s.heap.size) (wM g a f1 f2 f3 f4 f5 f6 f7 f8 z9 f10 f11 f12 f13 f20 (f21 + i) f22 f23 f24 f25)) he4) hD
            have he5 : (f21 + i) = (if fFed f21 n = 0 then f21 + n else f21) := by rw [hf, if_pos rfl, show i = n by omega]
            have hP := Eq.mp (congrArg (fun z9 => va_P g.1 vwCl (wM g a f1 f2 f3 f4 f5 f6 f7 f8 (if fFed f21 n = 0 then fdT f9 f21 b n n else f9) f10 f11 f12 f13 f20 z9 f22 f23 f24 f25) H) he5) hP
            have hD := Eq.mp (congrArg (fun z9 => va_D (va_A (wM g a f1 f2 f3 f4 f5 f6 f7 f8 f9 f10 f11 f12 f13 f20 f21 f22 f23 f24 f25) s.heap.size) (wM g a f1 f2 f3 f4 f5 f6 f7 f8 (if fFed f21 n = 0 then fdT f9 f21 b n n else f9) f10 f11 f12 f13 f20 z9 f22 f23 f24 f25)) he5) hD
            have he6 : f6 = (fb (fFed f21 n) f6) := by rw [hf]; rfl
            have hP := Eq.mp (congrArg (fun z9 => va_P g.1 vwCl (wM g a f1 f2 f3 f4 f5 z9 f7 f8 (if fFed f21 n = 0 then fdT f9 f21 b n n else f9) f10 f11 f12 f13 f20 (if fFed f21 n = 0 then f21 + n else f21) f22 f23 f24 f25) H) he6) hP
            have hD := Eq.mp (congrArg (fun z9 => va_D (va_A (wM g a f1 f2 f3 f4 f5 f6 f7 f8 f9 f10 f11 f12 f13 f20 f21 f22 f23 f24 f25) s.heap.size) (wM g a f1 f2 f3 f4 f5 z9 f7 f8 (if fFed f21 n = 0 then fdT f9 f21 b n n else f9) f10 f11 f12 f13 f20 (if fFed f21 n = 0 then f21 + n else f21) f22 f23 f24 f25)) he6) hD
            have hP : va_P g.1 vwCl (wM g a f1 f2 f3 f4 f5 (fb (fFed f21 n) f6) f7 f8 (if fFed f21 n = 0 then fdT f9 f21 b n n else f9) f10 f11 f12 f13 f20 (if fFed f21 n = 0 then f21 + n else f21) f22 f23 f24 f25) H := hP
            have hD : va_D (va_A (wM g a f1 f2 f3 f4 f5 f6 f7 f8 f9 f10 f11 f12 f13 f20 f21 f22 f23 f24 f25) s.heap.size) (wM g a f1 f2 f3 f4 f5 (fb (fFed f21 n) f6) f7 f8 (if fFed f21 n = 0 then fdT f9 f21 b n n else f9) f10 f11 f12 f13 f20 (if fFed f21 n = 0 then f21 + n else f21) f22 f23 f24 f25) := hD
            exact W.iret hx hb hr (fun t ht hW => ⟨⟨_, (), rfl, by rw [hf, ab_0, show i = n by omega], by rw [ht]; exact hP, hD⟩, hS.F ht⟩) hS.2.2 dX5_feed_84
          · refine lv_aload_n hx hb dX5_feed_45 rfl (lv_at hl 1 rfl) ?_
            refine xg_X5 hx hb hts hown hK hP 0 rfl 9 (by decide) fk_X5_34 (v := .ref (a 9)) rfl dX5_feed_46 ?_
            refine lv_aload_n hx hb dX5_feed_49 rfl (lv_at hl 1 rfl) ?_
            refine xg_X5 hx hb hts hown hK hP 0 rfl 10 (by decide) fk_X5_206 (v := .int (iI (f21 + i))) rfl dX5_feed_50 ?_
            refine lv_iload_n hx hb dX5_feed_53 rfl (lv_at hl 2 rfl) ?_
            refine lv_bipush (v := iI (8)) hx hb dX5_feed_54 (by decide) ?_
            refine lv_iload_n hx hb dX5_feed_56 rfl (lv_at hl 0 rfl) ?_
            refine xi_mul hx hb dX5_feed_57 ?_
            refine lv_ishr hx hb dX5_feed_58 ?_
            refine lv_sipush (v := iI (255)) hx hb dX5_feed_59 (by decide) ?_
            refine lv_iand hx hb dX5_feed_62 ?_
            refine xi_raw hx hb ?_
            refine xi_ast hx hb hK hP hD hS 9 (f := fdT f9 f21 b n i) rfl (i := f21 + i) (v := Int32.toInt ((((iI b) >>> ((iI (8 * (n - 1 - i))) &&& 31))) &&& (iI 255))) ⟨by omega, by omega⟩ rfl dX5_feed_63 (fun H locs hP hD hS => ?_)
            have hP : va_P g.1 vwCl (wM g a f1 f2 f3 f4 f5 f6 f7 f8 (up (fdT f9 f21 b n i) (f21 + i) (Int32.toInt ((((iI b) >>> ((iI (8 * (n - 1 - i))) &&& 31))) &&& (iI 255)))) f10 f11 f12 f13 f20 (f21 + i) f22 f23 f24 f25) H := hP
            have hD : va_D (va_A (wM g a f1 f2 f3 f4 f5 f6 f7 f8 f9 f10 f11 f12 f13 f20 f21 f22 f23 f24 f25) s.heap.size) (wM g a f1 f2 f3 f4 f5 f6 f7 f8 (up (fdT f9 f21 b n i) (f21 + i) (Int32.toInt ((((iI b) >>> ((iI (8 * (n - 1 - i))) &&& 31))) &&& (iI 255)))) f10 f11 f12 f13 f20 (f21 + i) f22 f23 f24 f25) := hD
            refine lv_aload_n hx hb dX5_feed_64 rfl (lv_at hl 1 rfl) ?_
            refine lv_dup hx hb dX5_feed_65 rfl ?_
            refine xg_X5 hx hb hts hown hK hP 0 rfl 10 (by decide) fk_X5_206 (v := .int (iI (f21 + i))) rfl dX5_feed_66 ?_
            refine lv_iconst (v := iI (1)) hx hb dX5_feed_69 (by decide) ?_
            refine xi_add hx hb dX5_feed_70 ?_
            refine xp_X5 hx hb hts hown hK hP hD hS 0 rfl 10 (by decide) fk_X5_206 rfl (v := .int (iI (f21 + i + 1))) rfl rfl (Nat.le_of_ble_eq_true rfl) dX5_feed_71 (fun H locs hP hD hS => ?_)
            have hP : va_P g.1 vwCl (wM g a f1 f2 f3 f4 f5 f6 f7 f8 (up (fdT f9 f21 b n i) (f21 + i) (Int32.toInt ((((iI b) >>> ((iI (8 * (n - 1 - i))) &&& 31))) &&& (iI 255)))) f10 f11 f12 f13 f20 (f21 + i + 1) f22 f23 f24 f25) H := hP
            have hD : va_D (va_A (wM g a f1 f2 f3 f4 f5 f6 f7 f8 f9 f10 f11 f12 f13 f20 f21 f22 f23 f24 f25) s.heap.size) (wM g a f1 f2 f3 f4 f5 f6 f7 f8 (up (fdT f9 f21 b n i) (f21 + i) (Int32.toInt ((((iI b) >>> ((iI (8 * (n - 1 - i))) &&& 31))) &&& (iI 255)))) f10 f11 f12 f13 f20 (f21 + i + 1) f22 f23 f24 f25) := hD
            refine xi_inc (lv' := [(3, .int (iI (n - 1 - i + (-1)))), (0, .ref (a 0)), (1, .int (iI b)), (2, .int (iI n))]) hx hb dX5_feed_74 hl (k := 0) rfl (by decide) rfl (fun ls hl => ?_)
            refine lv_goto (tgt := 41) hx hb dX5_feed_77 (by decide) ?_
            have hq7 : (n - 1 - i + (-1)) = (n - 1 - (i + 1)) := by omega
            have hl : lv_has ls 4 [(3, .int (iI (n - 1 - i + (-1)))), (0, .ref (a 0)), (1, .int (iI b)), (2, .int (iI n))] := lv_sub hl [0, 1, 2, 3] rfl
            have hl := Eq.mp (congrArg (fun z9 => lv_has ls 4 [(3, .int (iI z9)), (0, .ref (a 0)), (1, .int (iI b)), (2, .int (iI n))]) hq7) hl
            have hq8 : (up (fdT f9 f21 b n i) (f21 + i) (Int32.toInt ((((iI b) >>> ((iI (8 * (n - 1 - i))) &&& 31))) &&& (iI 255)))) = (fdT f9 f21 b n (i + 1)) := fdT_S f9 f21 b n i41_1.1
            have hP := Eq.mp (congrArg (fun z9 => va_P g.1 vwCl (wM g a f1 f2 f3 f4 f5 f6 f7 f8 z9 f10 f11 f12 f13 f20 (f21 + i + 1) f22 f23 f24 f25) H) hq8) hP
            have hD := Eq.mp (congrArg (fun z9 => va_D (va_A (wM g a f1 f2 f3 f4 f5 f6 f7 f8 f9 f10 f11 f12 f13 f20 f21 f22 f23 f24 f25) s.heap.size) (wM g a f1 f2 f3 f4 f5 f6 f7 f8 z9 f10 f11 f12 f13 f20 (f21 + i + 1) f22 f23 f24 f25)) hq8) hD
            have hq9 : (f21 + i + 1) = (f21 + (i + 1)) := by omega
            have hP := Eq.mp (congrArg (fun z9 => va_P g.1 vwCl (wM g a f1 f2 f3 f4 f5 f6 f7 f8 (fdT f9 f21 b n (i + 1)) f10 f11 f12 f13 f20 z9 f22 f23 f24 f25) H) hq9) hP
            have hD := Eq.mp (congrArg (fun z9 => va_D (va_A (wM g a f1 f2 f3 f4 f5 f6 f7 f8 f9 f10 f11 f12 f13 f20 f21 f22 f23 f24 f25) s.heap.size) (wM g a f1 f2 f3 f4 f5 f6 f7 f8 (fdT f9 f21 b n (i + 1)) f10 f11 f12 f13 f20 z9 f22 f23 f24 f25)) hq9) hD
            exact ih41 (i + 1) (by omega) (by omega) ls hl H locs hP hD hS
      have hq10 : (n - 1) = (n - 1 - 0) := by omega
      have hl : lv_has ls 4 [(3, .int (iI (n - 1))), (0, .ref (a 0)), (1, .int (iI b)), (2, .int (iI n))] := lv_sub hl [0, 1, 2, 3] rfl
      have hl := Eq.mp (congrArg (fun z9 => lv_has ls 4 [(3, .int (iI z9)), (0, .ref (a 0)), (1, .int (iI b)), (2, .int (iI n))]) hq10) hl
      have hq11 : f9 = (fdT f9 f21 b n 0) := fdT_0 f9 f21 b n
      have hP := Eq.mp (congrArg (fun z9 => va_P g.1 vwCl (wM g a f1 f2 f3 f4 f5 f6 f7 f8 z9 f10 f11 f12 f13 f20 f21 f22 f23 f24 f25) s.heap) hq11) hP
      have hD := Eq.mp (congrArg (fun z9 => va_D (va_A (wM g a f1 f2 f3 f4 f5 f6 f7 f8 f9 f10 f11 f12 f13 f20 f21 f22 f23 f24 f25) s.heap.size) (wM g a f1 f2 f3 f4 f5 f6 f7 f8 z9 f10 f11 f12 f13 f20 f21 f22 f23 f24 f25)) hq11) hD
      have hq12 : f21 = (f21 + 0) := by omega
      have hP := Eq.mp (congrArg (fun z9 => va_P g.1 vwCl (wM g a f1 f2 f3 f4 f5 f6 f7 f8 (fdT f9 f21 b n 0) f10 f11 f12 f13 f20 z9 f22 f23 f24 f25) s.heap) hq12) hP
      have hD := Eq.mp (congrArg (fun z9 => va_D (va_A (wM g a f1 f2 f3 f4 f5 f6 f7 f8 f9 f10 f11 f12 f13 f20 f21 f22 f23 f24 f25) s.heap.size) (wM g a f1 f2 f3 f4 f5 f6 f7 f8 (fdT f9 f21 b n 0) f10 f11 f12 f13 f20 z9 f22 f23 f24 f25)) hq12) hD
      exact lp41 (4 + 1) 0 (by omega) (by omega) ls hl s.heap [] hP hD hS
    · refine lv_aload_n hx hb dX5_feed_30 rfl (lv_at hl 0 rfl) ?_
      refine xi_ldc hx hb hown hts kk_X5_90 dX5_feed_31 ?_
      refine xm_i (rV (rest := []) hx hb hml hown hts hK hl (c_X5_finds l g a f1 f2 f3 f4 f5 f6 f7 f8 f9 f10 f11 f12 f13 f20 f21 f22 f23 f24 f25 (-1000000002) (s.heap).size (show 0 ≤ -1000000001 - (-1000000002) ∧ -1000000001 - (-1000000002) < 7 from by omega)) lk_X5_74 ⟨rfl, hP, hD.weaken (fun _ _ _ _ => trivial)⟩ (va_recv hK.1 hP (ci := 5) (q0 := 0) rfl rfl) rfl rfl rfl (Rm.of rfl) rfl rfl dX5_feed_33) hD hS hA (fun x9 _ H locs hw hP hD hS => ?_)
      obtain rfl : x9 = iI (-1000000002) := hw
      have hP : va_P g.1 vwCl (wM g a f1 f2 f3 f4 f5 (fb (-1000000000 - (-1000000002)) f6) f7 f8 f9 f10 f11 f12 f13 f20 f21 f22 f23 f24 f25) H := hP
      have hD : va_D (va_A (wM g a f1 f2 f3 f4 f5 f6 f7 f8 f9 f10 f11 f12 f13 f20 f21 f22 f23 f24 f25) s.heap.size) (wM g a f1 f2 f3 f4 f5 (fb (-1000000000 - (-1000000002)) f6) f7 f8 f9 f10 f11 f12 f13 f20 f21 f22 f23 f24 f25) := hD
      have hf : fFed f21 n = 2 := by unfold fFed; (repeat (first | rw [if_pos (by omega)] | rw [if_neg (by omega)])); first | done | (exfalso; omega)
      have he14 : f9 = (if fFed f21 n = 0 then fdT f9 f21 b n n else f9) := by rw [hf]; rfl
      have hP := Eq.mp (congrArg (fun z9 => va_P g.1 vwCl (wM g a f1 f2 f3 f4 f5 (fb (-1000000000 - (-1000000002)) f6) f7 f8 z9 f10 f11 f12 f13 f20 f21 f22 f23 f24 f25) H) he14) hP
      have hD := Eq.mp (congrArg (fun z9 => va_D (va_A (wM g a f1 f2 f3 f4 f5 f6 f7 f8 f9 f10 f11 f12 f13 f20 f21 f22 f23 f24 f25) s.heap.size) (wM g a f1 f2 f3 f4 f5 (fb (-1000000000 - (-1000000002)) f6) f7 f8 z9 f10 f11 f12 f13 f20 f21 f22 f23 f24 f25)) he14) hD
      have he15 : f21 = (if fFed f21 n = 0 then f21 + n else f21) := by rw [hf]; rfl
      have hP := Eq.mp (congrArg (fun z9 => va_P g.1 vwCl (wM g a f1 f2 f3 f4 f5 (fb (-1000000000 - (-1000000002)) f6) f7 f8 (if fFed f21 n = 0 then fdT f9 f21 b n n else f9) f10 f11 f12 f13 f20 z9 f22 f23 f24 f25) H) he15) hP
      have hD := Eq.mp (congrArg (fun z9 => va_D (va_A (wM g a f1 f2 f3 f4 f5 f6 f7 f8 f9 f10 f11 f12 f13 f20 f21 f22 f23 f24 f25) s.heap.size) (wM g a f1 f2 f3 f4 f5 (fb (-1000000000 - (-1000000002)) f6) f7 f8 (if fFed f21 n = 0 then fdT f9 f21 b n n else f9) f10 f11 f12 f13 f20 z9 f22 f23 f24 f25)) he15) hD
      have he16 : (fb (-1000000000 - (-1000000002)) f6) = (fb (fFed f21 n) f6) := by rw [hf]; rfl
      have hP := Eq.mp (congrArg (fun z9 => va_P g.1 vwCl (wM g a f1 f2 f3 f4 f5 z9 f7 f8 (if fFed f21 n = 0 then fdT f9 f21 b n n else f9) f10 f11 f12 f13 f20 (if fFed f21 n = 0 then f21 + n else f21) f22 f23 f24 f25) H) he16) hP
      have hD := Eq.mp (congrArg (fun z9 => va_D (va_A (wM g a f1 f2 f3 f4 f5 f6 f7 f8 f9 f10 f11 f12 f13 f20 f21 f22 f23 f24 f25) s.heap.size) (wM g a f1 f2 f3 f4 f5 z9 f7 f8 (if fFed f21 n = 0 then fdT f9 f21 b n n else f9) f10 f11 f12 f13 f20 (if fFed f21 n = 0 then f21 + n else f21) f22 f23 f24 f25)) he16) hD
      have hP : va_P g.1 vwCl (wM g a f1 f2 f3 f4 f5 (fb (fFed f21 n) f6) f7 f8 (if fFed f21 n = 0 then fdT f9 f21 b n n else f9) f10 f11 f12 f13 f20 (if fFed f21 n = 0 then f21 + n else f21) f22 f23 f24 f25) H := hP
      have hD : va_D (va_A (wM g a f1 f2 f3 f4 f5 f6 f7 f8 f9 f10 f11 f12 f13 f20 f21 f22 f23 f24 f25) s.heap.size) (wM g a f1 f2 f3 f4 f5 (fb (fFed f21 n) f6) f7 f8 (if fFed f21 n = 0 then fdT f9 f21 b n n else f9) f10 f11 f12 f13 f20 (if fFed f21 n = 0 then f21 + n else f21) f22 f23 f24 f25) := hD
      exact W.iret hx hb hr (fun t ht hW => ⟨⟨_, (), rfl, by rw [hf]; rfl, by rw [ht]; exact hP, hD⟩, hS.F ht⟩) hS.2.2 dX5_feed_36
  · refine xi_zf_ne hx hb ⟨by decide, by decide⟩ (by decide) dX5_feed_9 ⟨19, by decide⟩ ?_
    refine lv_aload_n hx hb dX5_feed_12 rfl (lv_at hl 0 rfl) ?_
    refine xi_ldc hx hb hown hts kk_X5_50 dX5_feed_13 ?_
    refine xm_i (rV (rest := []) hx hb hml hown hts hK hl (c_X5_finds l g a f1 f2 f3 f4 f5 f6 f7 f8 f9 f10 f11 f12 f13 f20 f21 f22 f23 f24 f25 (-1000000001) (s.heap).size (show 0 ≤ -1000000001 - (-1000000001) ∧ -1000000001 - (-1000000001) < 7 from by omega)) lk_X5_74 ⟨rfl, hP, hD.weaken (fun _ _ _ _ => trivial)⟩ (va_recv hK.1 hP (ci := 5) (q0 := 0) rfl rfl) rfl rfl rfl (Rm.of rfl) rfl rfl dX5_feed_15) hD hS hA (fun x9 _ H locs hw hP hD hS => ?_)
    obtain rfl : x9 = iI (-1000000001) := hw
    have hP : va_P g.1 vwCl (wM g a f1 f2 f3 f4 f5 (fb (-1000000000 - (-1000000001)) f6) f7 f8 f9 f10 f11 f12 f13 f20 f21 f22 f23 f24 f25) H := hP
    have hD : va_D (va_A (wM g a f1 f2 f3 f4 f5 f6 f7 f8 f9 f10 f11 f12 f13 f20 f21 f22 f23 f24 f25) s.heap.size) (wM g a f1 f2 f3 f4 f5 (fb (-1000000000 - (-1000000001)) f6) f7 f8 f9 f10 f11 f12 f13 f20 f21 f22 f23 f24 f25) := hD
    have hf : fFed f21 n = 1 := by unfold fFed; (repeat (first | rw [if_pos (by omega)] | rw [if_neg (by omega)])); first | done | (exfalso; omega)
    have he18 : f9 = (if fFed f21 n = 0 then fdT f9 f21 b n n else f9) := by rw [hf]; rfl
    have hP := Eq.mp (congrArg (fun z9 => va_P g.1 vwCl (wM g a f1 f2 f3 f4 f5 (fb (-1000000000 - (-1000000001)) f6) f7 f8 z9 f10 f11 f12 f13 f20 f21 f22 f23 f24 f25) H) he18) hP
    have hD := Eq.mp (congrArg (fun z9 => va_D (va_A (wM g a f1 f2 f3 f4 f5 f6 f7 f8 f9 f10 f11 f12 f13 f20 f21 f22 f23 f24 f25) s.heap.size) (wM g a f1 f2 f3 f4 f5 (fb (-1000000000 - (-1000000001)) f6) f7 f8 z9 f10 f11 f12 f13 f20 f21 f22 f23 f24 f25)) he18) hD
    have he19 : f21 = (if fFed f21 n = 0 then f21 + n else f21) := by rw [hf]; rfl
    have hP := Eq.mp (congrArg (fun z9 => va_P g.1 vwCl (wM g a f1 f2 f3 f4 f5 (fb (-1000000000 - (-1000000001)) f6) f7 f8 (if fFed f21 n = 0 then fdT f9 f21 b n n else f9) f10 f11 f12 f13 f20 z9 f22 f23 f24 f25) H) he19) hP
    have hD := Eq.mp (congrArg (fun z9 => va_D (va_A (wM g a f1 f2 f3 f4 f5 f6 f7 f8 f9 f10 f11 f12 f13 f20 f21 f22 f23 f24 f25) s.heap.size) (wM g a f1 f2 f3 f4 f5 (fb (-1000000000 - (-1000000001)) f6) f7 f8 (if fFed f21 n = 0 then fdT f9 f21 b n n else f9) f10 f11 f12 f13 f20 z9 f22 f23 f24 f25)) he19) hD
    have he20 : (fb (-1000000000 - (-1000000001)) f6) = (fb (fFed f21 n) f6) := by rw [hf]; rfl
    have hP := Eq.mp (congrArg (fun z9 => va_P g.1 vwCl (wM g a f1 f2 f3 f4 f5 z9 f7 f8 (if fFed f21 n = 0 then fdT f9 f21 b n n else f9) f10 f11 f12 f13 f20 (if fFed f21 n = 0 then f21 + n else f21) f22 f23 f24 f25) H) he20) hP
    have hD := Eq.mp (congrArg (fun z9 => va_D (va_A (wM g a f1 f2 f3 f4 f5 f6 f7 f8 f9 f10 f11 f12 f13 f20 f21 f22 f23 f24 f25) s.heap.size) (wM g a f1 f2 f3 f4 f5 z9 f7 f8 (if fFed f21 n = 0 then fdT f9 f21 b n n else f9) f10 f11 f12 f13 f20 (if fFed f21 n = 0 then f21 + n else f21) f22 f23 f24 f25)) he20) hD
    have hP : va_P g.1 vwCl (wM g a f1 f2 f3 f4 f5 (fb (fFed f21 n) f6) f7 f8 (if fFed f21 n = 0 then fdT f9 f21 b n n else f9) f10 f11 f12 f13 f20 (if fFed f21 n = 0 then f21 + n else f21) f22 f23 f24 f25) H := hP
    have hD : va_D (va_A (wM g a f1 f2 f3 f4 f5 f6 f7 f8 f9 f10 f11 f12 f13 f20 f21 f22 f23 f24 f25) s.heap.size) (wM g a f1 f2 f3 f4 f5 (fb (fFed f21 n) f6) f7 f8 (if fFed f21 n = 0 then fdT f9 f21 b n n else f9) f10 f11 f12 f13 f20 (if fFed f21 n = 0 then f21 + n else f21) f22 f23 f24 f25) := hD
    exact W.iret hx hb hr (fun t ht hW => ⟨⟨_, (), rfl, by rw [hf]; rfl, by rw [ht]; exact hP, hD⟩, hS.F ht⟩) hS.2.2 dX5_feed_18
abbrev rm_X5_wipe : Room := { frames := 0, cells := 0, slots := 0, locals := 0 }
set_option maxRecDepth 100000 in
set_option maxHeartbeats 4000000 in
theorem c_X5_wipe (l : Launch) (g : Gd) (a : Nat → Nat) (f1 : Int → Int) (f2 : Int → Int) (f3 : Int → Int) (f4 : Int → Int) (f5 : Int → Int) (f6 : Int → Int) (f7 : Int → Int) (f8 : Int → Int) (f9 : Int → Int) (f10 : Int → Int) (f11 : Int → Int) (f12 : Int → Int) (f13 : Int → Int) (f20 : Int) (f21 : Int) (f22 : Int) (f23 : Int) (f24 : Int) (f25 : Int) (sz : Nat)  : Met l yX5_wipe (wsOf yX5_wipe cX5_wipe 2 (some .int)) rm_X5_wipe (PX g (wP g (wM g a f1 f2 f3 f4 f5 f6 f7 f8 f9 f10 f11 f12 f13 f20 f21 f22 f23 f24 f25) sz) [.ref (a 0)]) (QMi g (fun _ : Unit => wM g a f1 f2 f3 f4 f5 f6 f7 f8 f9 f10 f11 f12 f13 f20 0 f22 f23 f24 f25) (fun r9 _ => r9 = iI f21) (va_A (wM g a f1 f2 f3 f4 f5 f6 f7 f8 f9 f10 f11 f12 f13 f20 f21 f22 f23 f24 f25) sz)) 0 0 (va_A (wM g a f1 f2 f3 f4 f5 f6 f7 f8 f9 f10 f11 f12 f13 f20 f21 f22 f23 f24 f25) sz) := by
  refine me (g := g) (by decide) rfl ?_
  intro pq eq s mq below meth cq C hnm hB ls hl
  obtain ⟨hx, hb, hr, hml, hown, hts, hlocks, hK⟩ := C
  have hown : s.vm.findClass RX5 = some mq.cls := hown
  have hl : lv_has ls 2 [(0, .ref (a 0))] := hl
  obtain ⟨hsz, hP, hD0⟩ := hB
  subst hsz
  have hD := hD0.self (sz := s.heap.size)
  have hA : ∀ q : Nat, s.heap.size ≤ q → va_A (wM g a f1 f2 f3 f4 f5 f6 f7 f8 f9 f10 f11 f12 f13 f20 f21 f22 f23 f24 f25) s.heap.size q := fun q h => Or.inr h
  have hS : va_S (va_A (wM g a f1 f2 f3 f4 f5 f6 f7 f8 f9 f10 f11 f12 f13 f20 f21 f22 f23 f24 f25) s.heap.size) s.heap s.heap [] := va_S.rf
  refine lv_aload_n hx hb dX5_wipe_0 rfl (lv_at hl 0 rfl) ?_
  refine xg_X5 hx hb hts hown hK hP 0 rfl 10 (by decide) fk_X5_206 (v := .int (iI f21)) rfl dX5_wipe_1 ?_
  refine lv_istore_n (lv' := [(1, .int (iI f21)), (0, .ref (a 0))]) hx hb dX5_wipe_4 rfl hl (by decide) rfl (fun ls hl => ?_)
  refine lv_aload_n hx hb dX5_wipe_5 rfl (lv_at hl 1 rfl) ?_
  refine lv_iconst (v := iI (0)) hx hb dX5_wipe_6 (by decide) ?_
  refine xp_X5 hx hb hts hown hK hP hD hS 0 rfl 10 (by decide) fk_X5_206 rfl (v := .int (iI 0)) rfl rfl (Nat.le_of_ble_eq_true rfl) dX5_wipe_7 (fun H locs hP hD hS => ?_)
  have hP : va_P g.1 vwCl (wM g a f1 f2 f3 f4 f5 f6 f7 f8 f9 f10 f11 f12 f13 f20 0 f22 f23 f24 f25) H := hP
  have hD : va_D (va_A (wM g a f1 f2 f3 f4 f5 f6 f7 f8 f9 f10 f11 f12 f13 f20 f21 f22 f23 f24 f25) s.heap.size) (wM g a f1 f2 f3 f4 f5 f6 f7 f8 f9 f10 f11 f12 f13 f20 0 f22 f23 f24 f25) := hD
  refine lv_iload_n hx hb dX5_wipe_10 rfl (lv_at hl 0 rfl) ?_
  have hP : va_P g.1 vwCl (wM g a f1 f2 f3 f4 f5 f6 f7 f8 f9 f10 f11 f12 f13 f20 0 f22 f23 f24 f25) H := hP
  have hD : va_D (va_A (wM g a f1 f2 f3 f4 f5 f6 f7 f8 f9 f10 f11 f12 f13 f20 f21 f22 f23 f24 f25) s.heap.size) (wM g a f1 f2 f3 f4 f5 f6 f7 f8 f9 f10 f11 f12 f13 f20 0 f22 f23 f24 f25) := hD
  exact W.iret hx hb hr (fun t ht hW => ⟨⟨_, (), rfl, rfl, by rw [ht]; exact hP, hD⟩, hS.F ht⟩) hS.2.2 dX5_wipe_11
abbrev rm_X5_tear : Room := { frames := 0, cells := 0, slots := 0, locals := 0 }
set_option maxRecDepth 100000 in
set_option maxHeartbeats 4000000 in
theorem c_X5_tear (l : Launch) (g : Gd) (a : Nat → Nat) (f1 : Int → Int) (f2 : Int → Int) (f3 : Int → Int) (f4 : Int → Int) (f5 : Int → Int) (f6 : Int → Int) (f7 : Int → Int) (f8 : Int → Int) (f9 : Int → Int) (f10 : Int → Int) (f11 : Int → Int) (f12 : Int → Int) (f13 : Int → Int) (f20 : Int) (f21 : Int) (f22 : Int) (f23 : Int) (f24 : Int) (f25 : Int) (sz : Nat) (h1 : f20 = 0 ∨ f20 = 1) : Met l yX5_tear (wsOf yX5_tear cX5_tear 2 (some .int)) rm_X5_tear (PX g (wP g (wM g a f1 f2 f3 f4 f5 f6 f7 f8 f9 f10 f11 f12 f13 f20 f21 f22 f23 f24 f25) sz) [.ref (a 0)]) (QMi g (fun _ : Unit => wM g a f1 f2 f3 f4 f5 f6 f7 f8 f9 f10 f11 f12 f13 0 f21 f22 f23 f24 f25) (fun r9 _ => r9 = iI f20) (va_A (wM g a f1 f2 f3 f4 f5 f6 f7 f8 f9 f10 f11 f12 f13 f20 f21 f22 f23 f24 f25) sz)) 0 0 (va_A (wM g a f1 f2 f3 f4 f5 f6 f7 f8 f9 f10 f11 f12 f13 f20 f21 f22 f23 f24 f25) sz) := by
  refine me (g := g) (by decide) rfl ?_
  intro pq eq s mq below meth cq C hnm hB ls hl
  obtain ⟨hx, hb, hr, hml, hown, hts, hlocks, hK⟩ := C
  have hown : s.vm.findClass RX5 = some mq.cls := hown
  have hl : lv_has ls 2 [(0, .ref (a 0))] := hl
  obtain ⟨hsz, hP, hD0⟩ := hB
  subst hsz
  have hD := hD0.self (sz := s.heap.size)
  have hA : ∀ q : Nat, s.heap.size ≤ q → va_A (wM g a f1 f2 f3 f4 f5 f6 f7 f8 f9 f10 f11 f12 f13 f20 f21 f22 f23 f24 f25) s.heap.size q := fun q h => Or.inr h
  have hS : va_S (va_A (wM g a f1 f2 f3 f4 f5 f6 f7 f8 f9 f10 f11 f12 f13 f20 f21 f22 f23 f24 f25) s.heap.size) s.heap s.heap [] := va_S.rf
  refine lv_aload_n hx hb dX5_tear_0 rfl (lv_at hl 0 rfl) ?_
  refine xg_X5 hx hb hts hown hK hP 0 rfl 6 (by decide) fk_X5_330 (v := .int (iI f20)) rfl dX5_tear_1 ?_
  refine xi_z_eq (tgt := 11) hx hb ⟨by omega, by omega⟩ dX5_tear_4 (by decide) (fun z1 => ?_) (fun z1 => ?_)
  · refine lv_iconst (v := iI (0)) hx hb dX5_tear_11 (by decide) ?_
    refine lv_istore_n (lv' := [(1, .int (iI 0)), (0, .ref (a 0))]) hx hb dX5_tear_12 rfl hl (by decide) rfl (fun ls hl => ?_)
    refine lv_aload_n hx hb dX5_tear_13 rfl (lv_at hl 1 rfl) ?_
    refine lv_iconst (v := iI (0)) hx hb dX5_tear_14 (by decide) ?_
    refine xp_X5 hx hb hts hown hK hP hD hS 0 rfl 6 (by decide) fk_X5_330 rfl (v := .int (iI 0)) rfl rfl (Nat.le_of_ble_eq_true rfl) dX5_tear_15 (fun H locs hP hD hS => ?_)
    have hP : va_P g.1 vwCl (wM g a f1 f2 f3 f4 f5 f6 f7 f8 f9 f10 f11 f12 f13 0 f21 f22 f23 f24 f25) H := hP
    have hD : va_D (va_A (wM g a f1 f2 f3 f4 f5 f6 f7 f8 f9 f10 f11 f12 f13 f20 f21 f22 f23 f24 f25) s.heap.size) (wM g a f1 f2 f3 f4 f5 f6 f7 f8 f9 f10 f11 f12 f13 0 f21 f22 f23 f24 f25) := hD
    refine lv_iload_n hx hb dX5_tear_18 rfl (lv_at hl 0 rfl) ?_
    have hP : va_P g.1 vwCl (wM g a f1 f2 f3 f4 f5 f6 f7 f8 f9 f10 f11 f12 f13 0 f21 f22 f23 f24 f25) H := hP
    have hD : va_D (va_A (wM g a f1 f2 f3 f4 f5 f6 f7 f8 f9 f10 f11 f12 f13 f20 f21 f22 f23 f24 f25) s.heap.size) (wM g a f1 f2 f3 f4 f5 f6 f7 f8 f9 f10 f11 f12 f13 0 f21 f22 f23 f24 f25) := hD
    exact W.iret hx hb hr (fun t ht hW => ⟨⟨_, (), rfl, congrArg iI (by omega), by rw [ht]; exact hP, hD⟩, hS.F ht⟩) hS.2.2 dX5_tear_19
  · refine lv_iconst (v := iI (1)) hx hb dX5_tear_7 (by decide) ?_
    refine lv_goto (tgt := 12) hx hb dX5_tear_8 (by decide) ?_
    refine lv_istore_n (lv' := [(1, .int (iI 1)), (0, .ref (a 0))]) hx hb dX5_tear_12 rfl hl (by decide) rfl (fun ls hl => ?_)
    refine lv_aload_n hx hb dX5_tear_13 rfl (lv_at hl 1 rfl) ?_
    refine lv_iconst (v := iI (0)) hx hb dX5_tear_14 (by decide) ?_
    refine xp_X5 hx hb hts hown hK hP hD hS 0 rfl 6 (by decide) fk_X5_330 rfl (v := .int (iI 0)) rfl rfl (Nat.le_of_ble_eq_true rfl) dX5_tear_15 (fun H locs hP hD hS => ?_)
    have hP : va_P g.1 vwCl (wM g a f1 f2 f3 f4 f5 f6 f7 f8 f9 f10 f11 f12 f13 0 f21 f22 f23 f24 f25) H := hP
    have hD : va_D (va_A (wM g a f1 f2 f3 f4 f5 f6 f7 f8 f9 f10 f11 f12 f13 f20 f21 f22 f23 f24 f25) s.heap.size) (wM g a f1 f2 f3 f4 f5 f6 f7 f8 f9 f10 f11 f12 f13 0 f21 f22 f23 f24 f25) := hD
    refine lv_iload_n hx hb dX5_tear_18 rfl (lv_at hl 0 rfl) ?_
    have hP : va_P g.1 vwCl (wM g a f1 f2 f3 f4 f5 f6 f7 f8 f9 f10 f11 f12 f13 0 f21 f22 f23 f24 f25) H := hP
    have hD : va_D (va_A (wM g a f1 f2 f3 f4 f5 f6 f7 f8 f9 f10 f11 f12 f13 f20 f21 f22 f23 f24 f25) s.heap.size) (wM g a f1 f2 f3 f4 f5 f6 f7 f8 f9 f10 f11 f12 f13 0 f21 f22 f23 f24 f25) := hD
    exact W.iret hx hb hr (fun t ht hW => ⟨⟨_, (), rfl, congrArg iI (by omega), by rw [ht]; exact hP, hD⟩, hS.F ht⟩) hS.2.2 dX5_tear_19
abbrev rm_X5_image : Room := { frames := 0, cells := 0, slots := 0, locals := 0 }
set_option maxRecDepth 100000 in
set_option maxHeartbeats 4000000 in
theorem c_X5_image (l : Launch) (g : Gd) (a : Nat → Nat) (f1 : Int → Int) (f2 : Int → Int) (f3 : Int → Int) (f4 : Int → Int) (f5 : Int → Int) (f6 : Int → Int) (f7 : Int → Int) (f8 : Int → Int) (f9 : Int → Int) (f10 : Int → Int) (f11 : Int → Int) (f12 : Int → Int) (f13 : Int → Int) (f20 : Int) (f21 : Int) (f22 : Int) (f23 : Int) (f24 : Int) (f25 : Int) (sz : Nat)  : Met l yX5_image (wsOf yX5_image cX5_image 2 (some .int)) rm_X5_image (PX g (wP g (wM g a f1 f2 f3 f4 f5 f6 f7 f8 f9 f10 f11 f12 f13 f20 f21 f22 f23 f24 f25) sz) [.ref (a 0)]) (QMi g (fun _ : Unit => wM g a f1 f1 f3 f4 f5 f6 f7 f8 f9 f10 f11 f12 f13 1 f21 f22 f23 f24 f25) (fun r9 _ => r9 = iI 1) (va_A (wM g a f1 f2 f3 f4 f5 f6 f7 f8 f9 f10 f11 f12 f13 f20 f21 f22 f23 f24 f25) sz)) 0 0 (va_A (wM g a f1 f2 f3 f4 f5 f6 f7 f8 f9 f10 f11 f12 f13 f20 f21 f22 f23 f24 f25) sz) := by
  refine me (g := g) (by decide) rfl ?_
  intro pq eq s mq below meth cq C hnm hB ls hl
  obtain ⟨hx, hb, hr, hml, hown, hts, hlocks, hK⟩ := C
  have hown : s.vm.findClass RX5 = some mq.cls := hown
  have hl : lv_has ls 2 [(0, .ref (a 0))] := hl
  obtain ⟨hsz, hP, hD0⟩ := hB
  subst hsz
  have hD := hD0.self (sz := s.heap.size)
  have hA : ∀ q : Nat, s.heap.size ≤ q → va_A (wM g a f1 f2 f3 f4 f5 f6 f7 f8 f9 f10 f11 f12 f13 f20 f21 f22 f23 f24 f25) s.heap.size q := fun q h => Or.inr h
  have hS : va_S (va_A (wM g a f1 f2 f3 f4 f5 f6 f7 f8 f9 f10 f11 f12 f13 f20 f21 f22 f23 f24 f25) s.heap.size) s.heap s.heap [] := va_S.rf
  refine lv_iconst (v := iI (0)) hx hb dX5_image_0 (by decide) ?_
  refine lv_istore_n (lv' := [(1, .int (iI 0)), (0, .ref (a 0))]) hx hb dX5_image_1 rfl hl (by decide) rfl (fun ls hl => ?_)
  have lp2 : ∀ (n2 : Nat) (k : Int), (0 ≤ k ∧ k ≤ 101) → (101 - k).toNat < n2 → ∀ ls : Array Slot, lv_has ls 2 [(1, .int (iI k)), (0, .ref (a 0))] → ∀ (H : Heap) (locs : List Loc), va_P g.1 vwCl (wM g a f1 (cpT f1 f2 k) f3 f4 f5 f6 f7 f8 f9 f10 f11 f12 f13 f20 f21 f22 f23 f24 f25) H → va_D (va_A (wM g a f1 f2 f3 f4 f5 f6 f7 f8 f9 f10 f11 f12 f13 f20 f21 f22 f23 f24 f25) s.heap.size) (wM g a f1 (cpT f1 f2 k) f3 f4 f5 f6 f7 f8 f9 f10 f11 f12 f13 f20 f21 f22 f23 f24 f25) → va_S (va_A (wM g a f1 f2 f3 f4 f5 f6 f7 f8 f9 f10 f11 f12 f13 f20 f21 f22 f23 f24 f25) s.heap.size) s.heap H locs → W pq l eq rm_X5_image s mq [.ref (a 0)].toArray below meth cq H locs 0 0 (MQ below (QMi g (fun _ : Unit => wM g a f1 f1 f3 f4 f5 f6 f7 f8 f9 f10 f11 f12 f13 1 f21 f22 f23 f24 f25) (fun r9 _ => r9 = iI 1) (va_A (wM g a f1 f2 f3 f4 f5 f6 f7 f8 f9 f10 f11 f12 f13 f20 f21 f22 f23 f24 f25) s.heap.size)) [.ref (a 0)].toArray s 0 0 (va_A (wM g a f1 f2 f3 f4 f5 f6 f7 f8 f9 f10 f11 f12 f13 f20 f21 f22 f23 f24 f25) s.heap.size)) (F0 mq 2 ls []) := by
    intro n2
    induction n2 with
    | zero => intro k i2_1 hm; exact absurd hm (Nat.not_lt_zero _)
    | succ n2 ih2 =>
      intro k i2_1 hm2 ls hl H locs hP hD hS
      refine lv_iload_n hx hb dX5_image_2 rfl (lv_at hl 0 rfl) ?_
      refine lv_bipush (v := iI (101)) hx hb dX5_image_3 (by decide) ?_
      refine xi_c_ge (tgt := 26) hx hb ⟨by omega, by omega⟩ ⟨by decide, by decide⟩ dX5_image_5 (by decide) (fun z1 => ?_) (fun z1 => ?_)
      · have hP := P_cong hP 2 (y := (101, .inl (ar f1))) rfl (ar_cong (fun j h0 h1 => cpT_in h0 (by omega)))
        have hD := va_D.set (e := .inl (g.2.1, (101, .inl (ar f1)))) hD (p := 2) rfl
        have hP : va_P g.1 vwCl (wM g a f1 f1 f3 f4 f5 f6 f7 f8 f9 f10 f11 f12 f13 f20 f21 f22 f23 f24 f25) H := hP
        have hD : va_D (va_A (wM g a f1 f2 f3 f4 f5 f6 f7 f8 f9 f10 f11 f12 f13 f20 f21 f22 f23 f24 f25) s.heap.size) (wM g a f1 f1 f3 f4 f5 f6 f7 f8 f9 f10 f11 f12 f13 f20 f21 f22 f23 f24 f25) := hD
        refine lv_aload_n hx hb dX5_image_26 rfl (lv_at hl 1 rfl) ?_
        refine lv_iconst (v := iI (1)) hx hb dX5_image_27 (by decide) ?_
        refine xp_X5 hx hb hts hown hK hP hD hS 0 rfl 6 (by decide) fk_X5_330 rfl (v := .int (iI 1)) rfl rfl (Nat.le_of_ble_eq_true rfl) dX5_image_28 (fun H locs hP hD hS => ?_)
        have hP : va_P g.1 vwCl (wM g a f1 f1 f3 f4 f5 f6 f7 f8 f9 f10 f11 f12 f13 1 f21 f22 f23 f24 f25) H := hP
        have hD : va_D (va_A (wM g a f1 f2 f3 f4 f5 f6 f7 f8 f9 f10 f11 f12 f13 f20 f21 f22 f23 f24 f25) s.heap.size) (wM g a f1 f1 f3 f4 f5 f6 f7 f8 f9 f10 f11 f12 f13 1 f21 f22 f23 f24 f25) := hD
        refine lv_iconst (v := iI (1)) hx hb dX5_image_31 (by decide) ?_
        have hP : va_P g.1 vwCl (wM g a f1 f1 f3 f4 f5 f6 f7 f8 f9 f10 f11 f12 f13 1 f21 f22 f23 f24 f25) H := hP
        have hD : va_D (va_A (wM g a f1 f2 f3 f4 f5 f6 f7 f8 f9 f10 f11 f12 f13 f20 f21 f22 f23 f24 f25) s.heap.size) (wM g a f1 f1 f3 f4 f5 f6 f7 f8 f9 f10 f11 f12 f13 1 f21 f22 f23 f24 f25) := hD
        exact W.iret hx hb hr (fun t ht hW => ⟨⟨_, (), rfl, rfl, by rw [ht]; exact hP, hD⟩, hS.F ht⟩) hS.2.2 dX5_image_32
      · refine lv_aload_n hx hb dX5_image_8 rfl (lv_at hl 1 rfl) ?_
        refine xg_X5 hx hb hts hown hK hP 0 rfl 1 (by decide) fk_X5_13 (v := .ref (a 2)) rfl dX5_image_9 ?_
        refine lv_iload_n hx hb dX5_image_12 rfl (lv_at hl 0 rfl) ?_
        refine lv_aload_n hx hb dX5_image_13 rfl (lv_at hl 1 rfl) ?_
        refine xg_X5 hx hb hts hown hK hP 0 rfl 0 (by decide) fk_X5_7 (v := .ref (a 1)) rfl dX5_image_14 ?_
        refine lv_iload_n hx hb dX5_image_17 rfl (lv_at hl 0 rfl) ?_
        refine xi_ald hx hb hK hP 1 (f := f1) rfl (i := k) ⟨by omega, by omega⟩ rfl dX5_image_18 ?_
        refine xi_ast hx hb hK hP hD hS 2 (f := cpT f1 f2 k) rfl (i := k) (v := f1 k) ⟨by omega, by omega⟩ rfl dX5_image_19 (fun H locs hP hD hS => ?_)
        have hP : va_P g.1 vwCl (wM g a f1 (up (cpT f1 f2 k) k (f1 k)) f3 f4 f5 f6 f7 f8 f9 f10 f11 f12 f13 f20 f21 f22 f23 f24 f25) H := hP
        have hD : va_D (va_A (wM g a f1 f2 f3 f4 f5 f6 f7 f8 f9 f10 f11 f12 f13 f20 f21 f22 f23 f24 f25) s.heap.size) (wM g a f1 (up (cpT f1 f2 k) k (f1 k)) f3 f4 f5 f6 f7 f8 f9 f10 f11 f12 f13 f20 f21 f22 f23 f24 f25) := hD
        refine xi_inc (lv' := [(1, .int (iI (k + 1))), (0, .ref (a 0))]) hx hb dX5_image_20 hl (k := 0) rfl (by decide) rfl (fun ls hl => ?_)
        refine lv_goto (tgt := 2) hx hb dX5_image_23 (by decide) ?_
        have hq2 : (up (cpT f1 f2 k) k (f1 k)) = (cpT f1 f2 (k + 1)) := cpT_S f1 f2 i2_1.1
        have hP := Eq.mp (congrArg (fun z9 => va_P g.1 vwCl (wM g a f1 z9 f3 f4 f5 f6 f7 f8 f9 f10 f11 f12 f13 f20 f21 f22 f23 f24 f25) H) hq2) hP
        have hD := Eq.mp (congrArg (fun z9 => va_D (va_A (wM g a f1 f2 f3 f4 f5 f6 f7 f8 f9 f10 f11 f12 f13 f20 f21 f22 f23 f24 f25) s.heap.size) (wM g a f1 z9 f3 f4 f5 f6 f7 f8 f9 f10 f11 f12 f13 f20 f21 f22 f23 f24 f25)) hq2) hD
        exact ih2 (k + 1) (by omega) (by omega) ls (lv_sub hl [0, 1] rfl) H locs hP hD hS
  have hq3 : f2 = (cpT f1 f2 0) := cpT_0 f1 f2
  have hP := Eq.mp (congrArg (fun z9 => va_P g.1 vwCl (wM g a f1 z9 f3 f4 f5 f6 f7 f8 f9 f10 f11 f12 f13 f20 f21 f22 f23 f24 f25) s.heap) hq3) hP
  have hD := Eq.mp (congrArg (fun z9 => va_D (va_A (wM g a f1 f2 f3 f4 f5 f6 f7 f8 f9 f10 f11 f12 f13 f20 f21 f22 f23 f24 f25) s.heap.size) (wM g a f1 z9 f3 f4 f5 f6 f7 f8 f9 f10 f11 f12 f13 f20 f21 f22 f23 f24 f25)) hq3) hD
  exact lp2 (101 + 1) 0 (by omega) (by omega) ls (lv_sub hl [0, 1] rfl) s.heap [] hP hD hS
abbrev rm_X5_undo : Room := { frames := 1, cells := 0, slots := 0, locals := 21 }
set_option maxRecDepth 100000 in
set_option maxHeartbeats 4000000 in
theorem c_X5_undo (l : Launch) (g : Gd) (a : Nat → Nat) (f1 : Int → Int) (f2 : Int → Int) (f3 : Int → Int) (f4 : Int → Int) (f5 : Int → Int) (f6 : Int → Int) (f7 : Int → Int) (f8 : Int → Int) (f9 : Int → Int) (f10 : Int → Int) (f11 : Int → Int) (f12 : Int → Int) (f13 : Int → Int) (f20 : Int) (f21 : Int) (f22 : Int) (f23 : Int) (f24 : Int) (f25 : Int) (sz : Nat) (h1 : InvK 0 f1) (h2 : f1 0 ≤ 9999) (h3 : f20 = 0 ∨ f20 = 1) : Met l yX5_undo (wsOf yX5_undo cX5_undo 2 (some .int)) rm_X5_undo (PX g (wP g (wM g a f1 f2 f3 f4 f5 f6 f7 f8 f9 f10 f11 f12 f13 f20 f21 f22 f23 f24 f25) sz) [.ref (a 0)]) (QMi g (fun _ : Unit => wM g a (if fUnd f20 = 0 then f2 else f1) f2 f3 f4 f5 (fb (fUnd f20) f6) f7 f8 f9 f10 f11 f12 f13 f20 f21 f22 f23 f24 f25) (fun r9 _ => r9 = ab (fUnd f20) (iI (f2 1))) (va_A (wM g a f1 f2 f3 f4 f5 f6 f7 f8 f9 f10 f11 f12 f13 f20 f21 f22 f23 f24 f25) sz)) 0 0 (va_A (wM g a f1 f2 f3 f4 f5 f6 f7 f8 f9 f10 f11 f12 f13 f20 f21 f22 f23 f24 f25) sz) := by
  refine me (g := g) (by decide) rfl ?_
  intro pq eq s mq below meth cq C hnm hB ls hl
  obtain ⟨hx, hb, hr, hml, hown, hts, hlocks, hK⟩ := C
  have hown : s.vm.findClass RX5 = some mq.cls := hown
  have hl : lv_has ls 2 [(0, .ref (a 0))] := hl
  obtain ⟨hsz, hP, hD0⟩ := hB
  subst hsz
  have hD := hD0.self (sz := s.heap.size)
  have hA : ∀ q : Nat, s.heap.size ≤ q → va_A (wM g a f1 f2 f3 f4 f5 f6 f7 f8 f9 f10 f11 f12 f13 f20 f21 f22 f23 f24 f25) s.heap.size q := fun q h => Or.inr h
  have hS : va_S (va_A (wM g a f1 f2 f3 f4 f5 f6 f7 f8 f9 f10 f11 f12 f13 f20 f21 f22 f23 f24 f25) s.heap.size) s.heap s.heap [] := va_S.rf
  have hI := h1
  have hI8 : Inv f1 := h1.mono (by omega)
  have hn := hI.num
  have hs := hI.sea
  have hv := hI.vil
  refine lv_aload_n hx hb dX5_undo_0 rfl (lv_at hl 0 rfl) ?_
  refine xg_X5 hx hb hts hown hK hP 0 rfl 6 (by decide) fk_X5_330 (v := .int (iI f20)) rfl dX5_undo_1 ?_
  refine xi_z_ne (tgt := 14) hx hb ⟨by omega, by omega⟩ dX5_undo_4 (by decide) (fun z1 => ?_) (fun z1 => ?_)
  · refine lv_iconst (v := iI (0)) hx hb dX5_undo_14 (by decide) ?_
    refine lv_istore_n (lv' := [(1, .int (iI 0)), (0, .ref (a 0))]) hx hb dX5_undo_15 rfl hl (by decide) rfl (fun ls hl => ?_)
    have lp16 : ∀ (n16 : Nat) (k : Int), (0 ≤ k ∧ k ≤ 101) → (101 - k).toNat < n16 → ∀ ls : Array Slot, lv_has ls 2 [(1, .int (iI k)), (0, .ref (a 0))] → ∀ (H : Heap) (locs : List Loc), va_P g.1 vwCl (wM g a (cpT f2 f1 k) f2 f3 f4 f5 f6 f7 f8 f9 f10 f11 f12 f13 f20 f21 f22 f23 f24 f25) H → va_D (va_A (wM g a f1 f2 f3 f4 f5 f6 f7 f8 f9 f10 f11 f12 f13 f20 f21 f22 f23 f24 f25) s.heap.size) (wM g a (cpT f2 f1 k) f2 f3 f4 f5 f6 f7 f8 f9 f10 f11 f12 f13 f20 f21 f22 f23 f24 f25) → va_S (va_A (wM g a f1 f2 f3 f4 f5 f6 f7 f8 f9 f10 f11 f12 f13 f20 f21 f22 f23 f24 f25) s.heap.size) s.heap H locs → W pq l eq rm_X5_undo s mq [.ref (a 0)].toArray below meth cq H locs 0 0 (MQ below (QMi g (fun _ : Unit => wM g a (if fUnd f20 = 0 then f2 else f1) f2 f3 f4 f5 (fb (fUnd f20) f6) f7 f8 f9 f10 f11 f12 f13 f20 f21 f22 f23 f24 f25) (fun r9 _ => r9 = ab (fUnd f20) (iI (f2 1))) (va_A (wM g a f1 f2 f3 f4 f5 f6 f7 f8 f9 f10 f11 f12 f13 f20 f21 f22 f23 f24 f25) s.heap.size)) [.ref (a 0)].toArray s 0 0 (va_A (wM g a f1 f2 f3 f4 f5 f6 f7 f8 f9 f10 f11 f12 f13 f20 f21 f22 f23 f24 f25) s.heap.size)) (F0 mq 16 ls []) := by
      intro n16
      induction n16 with
      | zero => intro k i16_1 hm; exact absurd hm (Nat.not_lt_zero _)
      | succ n16 ih16 =>
        intro k i16_1 hm16 ls hl H locs hP hD hS
        refine lv_iload_n hx hb dX5_undo_16 rfl (lv_at hl 0 rfl) ?_
        refine lv_bipush (v := iI (101)) hx hb dX5_undo_17 (by decide) ?_
        refine xi_c_ge (tgt := 40) hx hb ⟨by omega, by omega⟩ ⟨by decide, by decide⟩ dX5_undo_19 (by decide) (fun z2 => ?_) (fun z2 => ?_)
        · have hP := P_cong hP 1 (y := (101, .inl (ar f2))) rfl (ar_cong (fun j h0 h1 => cpT_in h0 (by omega)))
          have hD := va_D.set (e := .inl (g.2.1, (101, .inl (ar f2)))) hD (p := 1) rfl
          have hP : va_P g.1 vwCl (wM g a f2 f2 f3 f4 f5 f6 f7 f8 f9 f10 f11 f12 f13 f20 f21 f22 f23 f24 f25) H := hP
          have hD : va_D (va_A (wM g a f1 f2 f3 f4 f5 f6 f7 f8 f9 f10 f11 f12 f13 f20 f21 f22 f23 f24 f25) s.heap.size) (wM g a f2 f2 f3 f4 f5 f6 f7 f8 f9 f10 f11 f12 f13 f20 f21 f22 f23 f24 f25) := hD
          refine lv_aload_n hx hb dX5_undo_40 rfl (lv_at hl 1 rfl) ?_
          refine xg_X5 hx hb hts hown hK hP 0 rfl 0 (by decide) fk_X5_7 (v := .ref (a 1)) rfl dX5_undo_41 ?_
          refine lv_iconst (v := iI (1)) hx hb dX5_undo_44 (by decide) ?_
          refine xi_ald hx hb hK hP 1 (f := f2) rfl (i := 1) ⟨by omega, by omega⟩ rfl dX5_undo_45 ?_
          have hf : fUnd f20 = 0 := by unfold fUnd; (repeat (first | rw [if_pos (by omega)] | rw [if_neg (by omega)])); first | done | (exfalso; omega)
          have he3 : f2 = (if fUnd f20 = 0 then f2 else f1) := by rw [hf]; rfl
          have hP := Eq.mp (congrArg (fun z9 => va_P g.1 vwCl (wM g a z9 f2 f3 f4 f5 f6 f7 f8 f9 f10 f11 f12 f13 f20 f21 f22 f23 f24 f25) H) he3) hP
          have hD := Eq.mp (congrArg (fun z9 => va_D (va_A (wM g a f1 f2 f3 f4 f5 f6 f7 f8 f9 f10 f11 f12 f13 f20 f21 f22 f23 f24 f25) s.heap.size) (wM g a z9 f2 f3 f4 f5 f6 f7 f8 f9 f10 f11 f12 f13 f20 f21 f22 f23 f24 f25)) he3) hD
          have he4 : f6 = (fb (fUnd f20) f6) := by rw [hf]; rfl
          have hP := Eq.mp (congrArg (fun z9 => va_P g.1 vwCl (wM g a (if fUnd f20 = 0 then f2 else f1) f2 f3 f4 f5 z9 f7 f8 f9 f10 f11 f12 f13 f20 f21 f22 f23 f24 f25) H) he4) hP
          have hD := Eq.mp (congrArg (fun z9 => va_D (va_A (wM g a f1 f2 f3 f4 f5 f6 f7 f8 f9 f10 f11 f12 f13 f20 f21 f22 f23 f24 f25) s.heap.size) (wM g a (if fUnd f20 = 0 then f2 else f1) f2 f3 f4 f5 z9 f7 f8 f9 f10 f11 f12 f13 f20 f21 f22 f23 f24 f25)) he4) hD
          have hP : va_P g.1 vwCl (wM g a (if fUnd f20 = 0 then f2 else f1) f2 f3 f4 f5 (fb (fUnd f20) f6) f7 f8 f9 f10 f11 f12 f13 f20 f21 f22 f23 f24 f25) H := hP
          have hD : va_D (va_A (wM g a f1 f2 f3 f4 f5 f6 f7 f8 f9 f10 f11 f12 f13 f20 f21 f22 f23 f24 f25) s.heap.size) (wM g a (if fUnd f20 = 0 then f2 else f1) f2 f3 f4 f5 (fb (fUnd f20) f6) f7 f8 f9 f10 f11 f12 f13 f20 f21 f22 f23 f24 f25) := hD
          exact W.iret hx hb hr (fun t ht hW => ⟨⟨_, (), rfl, by rw [hf, ab_0], by rw [ht]; exact hP, hD⟩, hS.F ht⟩) hS.2.2 dX5_undo_46
        · refine lv_aload_n hx hb dX5_undo_22 rfl (lv_at hl 1 rfl) ?_
          refine xg_X5 hx hb hts hown hK hP 0 rfl 0 (by decide) fk_X5_7 (v := .ref (a 1)) rfl dX5_undo_23 ?_
          refine lv_iload_n hx hb dX5_undo_26 rfl (lv_at hl 0 rfl) ?_
          refine lv_aload_n hx hb dX5_undo_27 rfl (lv_at hl 1 rfl) ?_
          refine xg_X5 hx hb hts hown hK hP 0 rfl 1 (by decide) fk_X5_13 (v := .ref (a 2)) rfl dX5_undo_28 ?_
          refine lv_iload_n hx hb dX5_undo_31 rfl (lv_at hl 0 rfl) ?_
          refine xi_ald hx hb hK hP 2 (f := f2) rfl (i := k) ⟨by omega, by omega⟩ rfl dX5_undo_32 ?_
          refine xi_ast hx hb hK hP hD hS 1 (f := cpT f2 f1 k) rfl (i := k) (v := f2 k) ⟨by omega, by omega⟩ rfl dX5_undo_33 (fun H locs hP hD hS => ?_)
          have hP : va_P g.1 vwCl (wM g a (up (cpT f2 f1 k) k (f2 k)) f2 f3 f4 f5 f6 f7 f8 f9 f10 f11 f12 f13 f20 f21 f22 f23 f24 f25) H := hP
          have hD : va_D (va_A (wM g a f1 f2 f3 f4 f5 f6 f7 f8 f9 f10 f11 f12 f13 f20 f21 f22 f23 f24 f25) s.heap.size) (wM g a (up (cpT f2 f1 k) k (f2 k)) f2 f3 f4 f5 f6 f7 f8 f9 f10 f11 f12 f13 f20 f21 f22 f23 f24 f25) := hD
          refine xi_inc (lv' := [(1, .int (iI (k + 1))), (0, .ref (a 0))]) hx hb dX5_undo_34 hl (k := 0) rfl (by decide) rfl (fun ls hl => ?_)
          refine lv_goto (tgt := 16) hx hb dX5_undo_37 (by decide) ?_
          have hq5 : (up (cpT f2 f1 k) k (f2 k)) = (cpT f2 f1 (k + 1)) := cpT_S f2 f1 i16_1.1
          have hP := Eq.mp (congrArg (fun z9 => va_P g.1 vwCl (wM g a z9 f2 f3 f4 f5 f6 f7 f8 f9 f10 f11 f12 f13 f20 f21 f22 f23 f24 f25) H) hq5) hP
          have hD := Eq.mp (congrArg (fun z9 => va_D (va_A (wM g a f1 f2 f3 f4 f5 f6 f7 f8 f9 f10 f11 f12 f13 f20 f21 f22 f23 f24 f25) s.heap.size) (wM g a z9 f2 f3 f4 f5 f6 f7 f8 f9 f10 f11 f12 f13 f20 f21 f22 f23 f24 f25)) hq5) hD
          exact ih16 (k + 1) (by omega) (by omega) ls (lv_sub hl [0, 1] rfl) H locs hP hD hS
    have hq6 : f1 = (cpT f2 f1 0) := cpT_0 f2 f1
    have hP := Eq.mp (congrArg (fun z9 => va_P g.1 vwCl (wM g a z9 f2 f3 f4 f5 f6 f7 f8 f9 f10 f11 f12 f13 f20 f21 f22 f23 f24 f25) s.heap) hq6) hP
    have hD := Eq.mp (congrArg (fun z9 => va_D (va_A (wM g a f1 f2 f3 f4 f5 f6 f7 f8 f9 f10 f11 f12 f13 f20 f21 f22 f23 f24 f25) s.heap.size) (wM g a z9 f2 f3 f4 f5 f6 f7 f8 f9 f10 f11 f12 f13 f20 f21 f22 f23 f24 f25)) hq6) hD
    exact lp16 (101 + 1) 0 (by omega) (by omega) ls (lv_sub hl [0, 1] rfl) s.heap [] hP hD hS
  · refine lv_aload_n hx hb dX5_undo_7 rfl (lv_at hl 0 rfl) ?_
    refine xi_ldc hx hb hown hts kk_X5_178 dX5_undo_8 ?_
    refine xm_i (rV (rest := []) hx hb hml hown hts hK hl (c_X5_finds l g a f1 f2 f3 f4 f5 f6 f7 f8 f9 f10 f11 f12 f13 f20 f21 f22 f23 f24 f25 (-1000000004) (s.heap).size (show 0 ≤ -1000000001 - (-1000000004) ∧ -1000000001 - (-1000000004) < 7 from by omega)) lk_X5_74 ⟨rfl, hP, hD.weaken (fun _ _ _ _ => trivial)⟩ (va_recv hK.1 hP (ci := 5) (q0 := 0) rfl rfl) rfl rfl rfl (Rm.of rfl) rfl rfl dX5_undo_10) hD hS hA (fun x9 _ H locs hw hP hD hS => ?_)
    obtain rfl : x9 = iI (-1000000004) := hw
    have hP : va_P g.1 vwCl (wM g a f1 f2 f3 f4 f5 (fb (-1000000000 - (-1000000004)) f6) f7 f8 f9 f10 f11 f12 f13 f20 f21 f22 f23 f24 f25) H := hP
    have hD : va_D (va_A (wM g a f1 f2 f3 f4 f5 f6 f7 f8 f9 f10 f11 f12 f13 f20 f21 f22 f23 f24 f25) s.heap.size) (wM g a f1 f2 f3 f4 f5 (fb (-1000000000 - (-1000000004)) f6) f7 f8 f9 f10 f11 f12 f13 f20 f21 f22 f23 f24 f25) := hD
    have hf : fUnd f20 = 4 := by unfold fUnd; (repeat (first | rw [if_pos (by omega)] | rw [if_neg (by omega)])); first | done | (exfalso; omega)
    have he8 : f1 = (if fUnd f20 = 0 then f2 else f1) := by rw [hf]; rfl
    have hP := Eq.mp (congrArg (fun z9 => va_P g.1 vwCl (wM g a z9 f2 f3 f4 f5 (fb (-1000000000 - (-1000000004)) f6) f7 f8 f9 f10 f11 f12 f13 f20 f21 f22 f23 f24 f25) H) he8) hP
    have hD := Eq.mp (congrArg (fun z9 => va_D (va_A (wM g a f1 f2 f3 f4 f5 f6 f7 f8 f9 f10 f11 f12 f13 f20 f21 f22 f23 f24 f25) s.heap.size) (wM g a z9 f2 f3 f4 f5 (fb (-1000000000 - (-1000000004)) f6) f7 f8 f9 f10 f11 f12 f13 f20 f21 f22 f23 f24 f25)) he8) hD
    have he9 : (fb (-1000000000 - (-1000000004)) f6) = (fb (fUnd f20) f6) := by rw [hf]; rfl
    have hP := Eq.mp (congrArg (fun z9 => va_P g.1 vwCl (wM g a (if fUnd f20 = 0 then f2 else f1) f2 f3 f4 f5 z9 f7 f8 f9 f10 f11 f12 f13 f20 f21 f22 f23 f24 f25) H) he9) hP
    have hD := Eq.mp (congrArg (fun z9 => va_D (va_A (wM g a f1 f2 f3 f4 f5 f6 f7 f8 f9 f10 f11 f12 f13 f20 f21 f22 f23 f24 f25) s.heap.size) (wM g a (if fUnd f20 = 0 then f2 else f1) f2 f3 f4 f5 z9 f7 f8 f9 f10 f11 f12 f13 f20 f21 f22 f23 f24 f25)) he9) hD
    have hP : va_P g.1 vwCl (wM g a (if fUnd f20 = 0 then f2 else f1) f2 f3 f4 f5 (fb (fUnd f20) f6) f7 f8 f9 f10 f11 f12 f13 f20 f21 f22 f23 f24 f25) H := hP
    have hD : va_D (va_A (wM g a f1 f2 f3 f4 f5 f6 f7 f8 f9 f10 f11 f12 f13 f20 f21 f22 f23 f24 f25) s.heap.size) (wM g a (if fUnd f20 = 0 then f2 else f1) f2 f3 f4 f5 (fb (fUnd f20) f6) f7 f8 f9 f10 f11 f12 f13 f20 f21 f22 f23 f24 f25) := hD
    exact W.iret hx hb hr (fun t ht hW => ⟨⟨_, (), rfl, by rw [hf]; rfl, by rw [ht]; exact hP, hD⟩, hS.F ht⟩) hS.2.2 dX5_undo_13
