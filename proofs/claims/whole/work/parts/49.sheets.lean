theorem nrw_s {b v : Int} (h0 : 0 ≤ v) (h1 : v ≤ 23) : nrw b v = v := by
  have a : n8 v = v := by unfold n8; exact Int8.toInt_ofInt_of_le (by omega) (by omega)
  have c : n16 v = v := by unfold n16; exact Int16.toInt_ofInt_of_le (by omega) (by omega)
  unfold nrw
  rw [a, c]
  split
  · rfl
  · split <;> rfl
abbrev rm_X2_isMissing : Room := { frames := 0, cells := 0, slots := 0, locals := 0 }
set_option maxRecDepth 100000 in
set_option maxHeartbeats 4000000 in
theorem c_X2_isMissing0 (l : Launch) (g : Gd) (a : Nat → Nat) (f10 : Int → Int) (f11 : Int → Int) (f12 : Int → Int) (h1 : IR (f10 0)) : Met l yX2_isMissing (wsOf yX2_isMissing cX2_isMissing 1 (some .boolean)) rm_X2_isMissing (PX g (va_P g.1 vwCl (wSs g a f10 f11 f12)) [.ref (a 0)]) (vp_Si (fun r9 => r9 = iI (bI (f10 0 = 0)))) 0 0 (fun _ => False) := by
  refine me (g := g) (by decide) rfl ?_
  intro pq eq s mq below meth cq C hnm hB ls hl
  obtain ⟨hx, hb, hr, hml, hown, hts, hlocks, hK⟩ := C
  have hown : s.vm.findClass RX2 = some mq.cls := hown
  have hl : lv_has ls 1 [(0, .ref (a 0))] := hl
  have hP : va_P g.1 vwCl (wSs g a f10 f11 f12) s.heap := hB
  have q1 := h1.1
  have q2 := h1.2
  refine lv_aload_n hx hb dX2_isMissing_0 rfl (lv_at hl 0 rfl) ?_
  refine xg_X2 hx hb hts hown hK hP 0 rfl 1 (by decide) fk_X2_15 (v := .int (iI (f10 0))) rfl dX2_isMissing_1 ?_
  refine xi_z_ne (tgt := 11) hx hb ⟨by omega, by omega⟩ dX2_isMissing_4 (by decide) (fun z1 => ?_) (fun z1 => ?_)
  · refine lv_iconst (v := iI (0)) hx hb dX2_isMissing_11 (by decide) ?_
    exact W.zret hx hb hr (by decide) (fun t ht hW => ⟨_, rfl, by rw [bI_f (by omega)], ht⟩) (fun q h => by cases h) dX2_isMissing_12
  · refine lv_iconst (v := iI (1)) hx hb dX2_isMissing_7 (by decide) ?_
    refine lv_goto (tgt := 12) hx hb dX2_isMissing_8 (by decide) ?_
    exact W.zret hx hb hr (by decide) (fun t ht hW => ⟨_, rfl, by rw [bI_t (by omega)], ht⟩) (fun q h => by cases h) dX2_isMissing_12
abbrev rm_X2_holds : Room := { frames := 0, cells := 0, slots := 0, locals := 0 }
set_option maxRecDepth 100000 in
set_option maxHeartbeats 4000000 in
theorem c_X2_holds0 (l : Launch) (g : Gd) (a : Nat → Nat) (f10 : Int → Int) (f11 : Int → Int) (f12 : Int → Int) (x : Int) (n : Int) (h1 : 0 ≤ f11 0 ∧ f11 0 ≤ 40) (h2 : IR x) (h3 : IR n) : Met l yX2_holds (wsOf yX2_holds cX2_holds 3 (some .boolean)) rm_X2_holds (PX g (va_P g.1 vwCl (wSs g a f10 f11 f12)) [.ref (a 0), .int (iI x), .int (iI n)]) (vp_Si (fun r9 => r9 = iI (bI (0 ≤ x ∧ 0 ≤ n ∧ n ≤ f11 0 ∧ x ≤ f11 0 - n)))) 0 0 (fun _ => False) := by
  refine me (g := g) (by decide) rfl ?_
  intro pq eq s mq below meth cq C hnm hB ls hl
  obtain ⟨hx, hb, hr, hml, hown, hts, hlocks, hK⟩ := C
  have hown : s.vm.findClass RX2 = some mq.cls := hown
  have hl : lv_has ls 3 [(0, .ref (a 0)), (1, .int (iI x)), (2, .int (iI n))] := hl
  have hP : va_P g.1 vwCl (wSs g a f10 f11 f12) s.heap := hB
  have q1 := h2.1
  have q2 := h2.2
  have q3 := h3.1
  have q4 := h3.2
  refine lv_iload_n hx hb dX2_holds_0 rfl (lv_at hl 1 rfl) ?_
  refine xi_z_lt (tgt := 30) hx hb ⟨by omega, by omega⟩ dX2_holds_1 (by decide) (fun z1 => ?_) (fun z1 => ?_)
  · refine lv_iconst (v := iI (0)) hx hb dX2_holds_30 (by decide) ?_
    exact W.zret hx hb hr (by decide) (fun t ht hW => ⟨_, rfl, by rw [bI_f (by omega)], ht⟩) (fun q h => by cases h) dX2_holds_31
  · refine lv_iload_n hx hb dX2_holds_4 rfl (lv_at hl 2 rfl) ?_
    refine xi_z_lt (tgt := 30) hx hb ⟨by omega, by omega⟩ dX2_holds_5 (by decide) (fun z2 => ?_) (fun z2 => ?_)
    · refine lv_iconst (v := iI (0)) hx hb dX2_holds_30 (by decide) ?_
      exact W.zret hx hb hr (by decide) (fun t ht hW => ⟨_, rfl, by rw [bI_f (by omega)], ht⟩) (fun q h => by cases h) dX2_holds_31
    · refine lv_iload_n hx hb dX2_holds_8 rfl (lv_at hl 2 rfl) ?_
      refine lv_aload_n hx hb dX2_holds_9 rfl (lv_at hl 0 rfl) ?_
      refine xg_X2 hx hb hts hown hK hP 0 rfl 2 (by decide) fk_X2_19 (v := .int (iI (f11 0))) rfl dX2_holds_10 ?_
      refine xi_c_gt (tgt := 30) hx hb ⟨by omega, by omega⟩ ⟨by omega, by omega⟩ dX2_holds_13 (by decide) (fun z3 => ?_) (fun z3 => ?_)
      · refine lv_iconst (v := iI (0)) hx hb dX2_holds_30 (by decide) ?_
        exact W.zret hx hb hr (by decide) (fun t ht hW => ⟨_, rfl, by rw [bI_f (by omega)], ht⟩) (fun q h => by cases h) dX2_holds_31
      · refine lv_iload_n hx hb dX2_holds_16 rfl (lv_at hl 1 rfl) ?_
        refine lv_aload_n hx hb dX2_holds_17 rfl (lv_at hl 0 rfl) ?_
        refine xg_X2 hx hb hts hown hK hP 0 rfl 2 (by decide) fk_X2_19 (v := .int (iI (f11 0))) rfl dX2_holds_18 ?_
        refine lv_iload_n hx hb dX2_holds_21 rfl (lv_at hl 2 rfl) ?_
        refine xi_sub hx hb dX2_holds_22 ?_
        refine xi_c_gt (tgt := 30) hx hb ⟨by omega, by omega⟩ ⟨by omega, by omega⟩ dX2_holds_23 (by decide) (fun z4 => ?_) (fun z4 => ?_)
        · refine lv_iconst (v := iI (0)) hx hb dX2_holds_30 (by decide) ?_
          exact W.zret hx hb hr (by decide) (fun t ht hW => ⟨_, rfl, by rw [bI_f (by omega)], ht⟩) (fun q h => by cases h) dX2_holds_31
        · refine lv_iconst (v := iI (1)) hx hb dX2_holds_26 (by decide) ?_
          refine lv_goto (tgt := 31) hx hb dX2_holds_27 (by decide) ?_
          exact W.zret hx hb hr (by decide) (fun t ht hW => ⟨_, rfl, by rw [bI_t (by omega)], ht⟩) (fun q h => by cases h) dX2_holds_31
abbrev rm_X2_renew : Room := { frames := 0, cells := 0, slots := 0, locals := 0 }
set_option maxRecDepth 100000 in
set_option maxHeartbeats 4000000 in
theorem c_X2_renew0 (l : Launch) (g : Gd) (a : Nat → Nat) (f10 : Int → Int) (f11 : Int → Int) (f12 : Int → Int) (b : Int) (n : Int) (sz : Nat) (h1 : IR b) : Met l yX2_renew (wsOf yX2_renew cX2_renew 4 none) rm_X2_renew (PX g (wP g (wSs g a f10 f11 f12) sz) [.ref (a 0), .int (iI b), .int (iI n)]) (QMv g (fun _ : Unit => wSs g a (up f10 0 b) (up f11 0 (if b = 0 then 0 else n)) (zrT f12 0 40)) (fun _ => True) (va_A (wSs g a f10 f11 f12) sz)) 0 0 (va_A (wSs g a f10 f11 f12) sz) := by
  refine me (g := g) (by decide) rfl ?_
  intro pq eq s mq below meth cq C hnm hB ls hl
  obtain ⟨hx, hb, hr, hml, hown, hts, hlocks, hK⟩ := C
  have hown : s.vm.findClass RX2 = some mq.cls := hown
  have hl : lv_has ls 4 [(0, .ref (a 0)), (1, .int (iI b)), (2, .int (iI n))] := hl
  obtain ⟨hsz, hP, hD0⟩ := hB
  subst hsz
  have hD := hD0.self (sz := s.heap.size)
  have hA : ∀ q : Nat, s.heap.size ≤ q → va_A (wSs g a f10 f11 f12) s.heap.size q := fun q h => Or.inr h
  have hS : va_S (va_A (wSs g a f10 f11 f12) s.heap.size) s.heap s.heap [] := va_S.rf
  have q1 := h1.1
  have q2 := h1.2
  refine lv_aload_n hx hb dX2_renew_0 rfl (lv_at hl 0 rfl) ?_
  refine lv_iload_n hx hb dX2_renew_1 rfl (lv_at hl 1 rfl) ?_
  refine xp_X2 hx hb hts hown hK hP hD hS 0 rfl 1 (by decide) fk_X2_15 rfl (v := .int (iI b)) rfl rfl (Nat.le_of_ble_eq_true rfl) dX2_renew_2 (fun H locs hP hD hS => ?_)
  have hP := Eq.mp (congrArg (fun z9 : va_W => va_P g.1 vwCl (z9) H) (Ss_bits_0 (g := g) (a := a) (s10 := f10) (s11 := f11) (s12 := f12) (v := b))) hP
  have hD := Eq.mp (congrArg (fun z9 : va_W => va_D (va_A (wSs g a f10 f11 f12) s.heap.size) (z9)) (Ss_bits_0 (g := g) (a := a) (s10 := f10) (s11 := f11) (s12 := f12) (v := b))) hD
  have hP : va_P g.1 vwCl (wSs g a (up f10 0 b) f11 f12) H := hP
  have hD : va_D (va_A (wSs g a f10 f11 f12) s.heap.size) (wSs g a (up f10 0 b) f11 f12) := hD
  refine lv_aload_n hx hb dX2_renew_5 rfl (lv_at hl 0 rfl) ?_
  refine lv_iload_n hx hb dX2_renew_6 rfl (lv_at hl 1 rfl) ?_
  refine xi_z_ne (tgt := 14) hx hb ⟨by omega, by omega⟩ dX2_renew_7 (by decide) (fun z1 => ?_) (fun z1 => ?_)
  · refine lv_iload_n hx hb dX2_renew_14 rfl (lv_at hl 2 rfl) ?_
    refine xp_X2 hx hb hts hown hK hP hD hS 0 rfl 2 (by decide) fk_X2_19 rfl (v := .int (iI n)) rfl rfl (Nat.le_of_ble_eq_true rfl) dX2_renew_15 (fun H locs hP hD hS => ?_)
    have hP := Eq.mp (congrArg (fun z9 : va_W => va_P g.1 vwCl (z9) H) (Ss_size_0 (g := g) (a := a) (s10 := up f10 0 b) (s11 := f11) (s12 := f12) (v := n))) hP
    have hD := Eq.mp (congrArg (fun z9 : va_W => va_D (va_A (wSs g a f10 f11 f12) s.heap.size) (z9)) (Ss_size_0 (g := g) (a := a) (s10 := up f10 0 b) (s11 := f11) (s12 := f12) (v := n))) hD
    have hP : va_P g.1 vwCl (wSs g a (up f10 0 b) (up f11 0 n) f12) H := hP
    have hD : va_D (va_A (wSs g a f10 f11 f12) s.heap.size) (wSs g a (up f10 0 b) (up f11 0 n) f12) := hD
    refine lv_iconst (v := iI (0)) hx hb dX2_renew_18 (by decide) ?_
    refine lv_istore_n (lv' := [(3, .int (iI 0)), (0, .ref (a 0)), (1, .int (iI b)), (2, .int (iI n))]) hx hb dX2_renew_19 rfl hl (by decide) rfl (fun ls hl => ?_)
    have lp20 : ∀ (n20 : Nat) (i : Int), (0 ≤ i ∧ i ≤ 40) → (40 - i).toNat < n20 → ∀ ls : Array Slot, lv_has ls 4 [(3, .int (iI i)), (0, .ref (a 0)), (1, .int (iI b)), (2, .int (iI n))] → ∀ (H : Heap) (locs : List Loc), va_P g.1 vwCl (wSs g a (up f10 0 b) (up f11 0 n) (zrT f12 0 i)) H → va_D (va_A (wSs g a f10 f11 f12) s.heap.size) (wSs g a (up f10 0 b) (up f11 0 n) (zrT f12 0 i)) → va_S (va_A (wSs g a f10 f11 f12) s.heap.size) s.heap H locs → W pq l eq rm_X2_renew s mq [.ref (a 0), .int (iI b), .int (iI n)].toArray below meth cq H locs 0 0 (MQ below (QMv g (fun _ : Unit => wSs g a (up f10 0 b) (up f11 0 (if b = 0 then 0 else n)) (zrT f12 0 40)) (fun _ => True) (va_A (wSs g a f10 f11 f12) s.heap.size)) [.ref (a 0), .int (iI b), .int (iI n)].toArray s 0 0 (va_A (wSs g a f10 f11 f12) s.heap.size)) (F0 mq 20 ls []) := by
      intro n20
      induction n20 with
      | zero => intro i i20_1 hm; exact absurd hm (Nat.not_lt_zero _)
      | succ n20 ih20 =>
        intro i i20_1 hm20 ls hl H locs hP hD hS
        refine lv_iload_n hx hb dX2_renew_20 rfl (lv_at hl 0 rfl) ?_
        refine lv_bipush (v := iI (40)) hx hb dX2_renew_21 (by decide) ?_
        refine xi_c_ge (tgt := 39) hx hb ⟨by omega, by omega⟩ ⟨by decide, by decide⟩ dX2_renew_23 (by decide) (fun z2 => ?_) (fun z2 => ?_)
        · have he3 : (up f11 0 n) = (up f11 0 (if b = 0 then 0 else n)) := by first | (rw [if_pos (by omega)]; done) | (rw [if_neg (by omega)]; done)
          have hP := Eq.mp (congrArg (fun z9 => va_P g.1 vwCl (wSs g a (up f10 0 b) z9 (zrT f12 0 i)) H) he3) hP
          have hD := Eq.mp (congrArg (fun z9 => va_D (va_A (wSs g a f10 f11 f12) s.heap.size) (wSs g a (up f10 0 b) z9 (zrT f12 0 i))) he3) hD
          have he4 : (zrT f12 0 i) = (zrT f12 0 40) := by rw [show i = 40 by omega]
          have hP := Eq.mp (congrArg (fun z9 => va_P g.1 vwCl (wSs g a (up f10 0 b) (up f11 0 (if b = 0 then 0 else n)) z9) H) he4) hP
          have hD := Eq.mp (congrArg (fun z9 => va_D (va_A (wSs g a f10 f11 f12) s.heap.size) (wSs g a (up f10 0 b) (up f11 0 (if b = 0 then 0 else n)) z9)) he4) hD
          have hP : va_P g.1 vwCl (wSs g a (up f10 0 b) (up f11 0 (if b = 0 then 0 else n)) (zrT f12 0 40)) H := hP
          have hD : va_D (va_A (wSs g a f10 f11 f12) s.heap.size) (wSs g a (up f10 0 b) (up f11 0 (if b = 0 then 0 else n)) (zrT f12 0 40)) := hD
          exact W.vret hx hb hr (fun t ht hW => ⟨⟨(), rfl, trivial, by rw [ht]; exact hP, hD⟩, hS.F ht⟩) hS.2.2 dX2_renew_39
        · refine lv_aload_n hx hb dX2_renew_26 rfl (lv_at hl 1 rfl) ?_
          refine xg_X2 hx hb hts hown hK hP 0 rfl 0 (by decide) fk_X2_9 (v := .ref (a 1)) rfl dX2_renew_27 ?_
          refine lv_iload_n hx hb dX2_renew_30 rfl (lv_at hl 0 rfl) ?_
          refine lv_lconst (v := lI (0)) hx hb dX2_renew_31 (by decide) ?_
          refine xl_ast hx hb hK hP hD hS 1 (f := pj 0 40 (zrT f12 0 i)) rfl (i := i) (v := 0) ⟨by omega, by omega⟩ rfl dX2_renew_32 (fun H locs hP hD hS => ?_)
          have hP := Eq.mp (congrArg (fun z9 : va_W => va_P g.1 vwCl (z9) H) (Ss_numbers_0 (g := g) (a := a) (s10 := up f10 0 b) (s11 := up f11 0 n) (s12 := zrT f12 0 i) (i := i) (v := 0) ⟨by omega, by omega⟩)) hP
          have hD := Eq.mp (congrArg (fun z9 : va_W => va_D (va_A (wSs g a f10 f11 f12) s.heap.size) (z9)) (Ss_numbers_0 (g := g) (a := a) (s10 := up f10 0 b) (s11 := up f11 0 n) (s12 := zrT f12 0 i) (i := i) (v := 0) ⟨by omega, by omega⟩)) hD
          have hP : va_P g.1 vwCl (wSs g a (up f10 0 b) (up f11 0 n) (up (zrT f12 0 i) (0 + i) 0)) H := hP
          have hD : va_D (va_A (wSs g a f10 f11 f12) s.heap.size) (wSs g a (up f10 0 b) (up f11 0 n) (up (zrT f12 0 i) (0 + i) 0)) := hD
          refine xi_inc (lv' := [(3, .int (iI (i + 1))), (0, .ref (a 0)), (1, .int (iI b)), (2, .int (iI n))]) hx hb dX2_renew_33 hl (k := 0) rfl (by decide) rfl (fun ls hl => ?_)
          refine lv_goto (tgt := 20) hx hb dX2_renew_36 (by decide) ?_
          have hq5 : (up (zrT f12 0 i) (0 + i) 0) = (zrT f12 0 (i + 1)) := zrT_S f12 0 i20_1.1
          have hP := Eq.mp (congrArg (fun z9 => va_P g.1 vwCl (wSs g a (up f10 0 b) (up f11 0 n) z9) H) hq5) hP
          have hD := Eq.mp (congrArg (fun z9 => va_D (va_A (wSs g a f10 f11 f12) s.heap.size) (wSs g a (up f10 0 b) (up f11 0 n) z9)) hq5) hD
          exact ih20 (i + 1) (by omega) (by omega) ls (lv_sub hl [0, 1, 2, 3] rfl) H locs hP hD hS
    have hq6 : f12 = (zrT f12 0 0) := zrT_0 f12 0
    have hP := Eq.mp (congrArg (fun z9 => va_P g.1 vwCl (wSs g a (up f10 0 b) (up f11 0 n) z9) H) hq6) hP
    have hD := Eq.mp (congrArg (fun z9 => va_D (va_A (wSs g a f10 f11 f12) s.heap.size) (wSs g a (up f10 0 b) (up f11 0 n) z9)) hq6) hD
    exact lp20 (40 + 1) 0 (by omega) (by omega) ls (lv_sub hl [0, 1, 2, 3] rfl) H locs hP hD hS
  · refine lv_iconst (v := iI (0)) hx hb dX2_renew_10 (by decide) ?_
    refine lv_goto (tgt := 15) hx hb dX2_renew_11 (by decide) ?_
    refine xp_X2 hx hb hts hown hK hP hD hS 0 rfl 2 (by decide) fk_X2_19 rfl (v := .int (iI 0)) rfl rfl (Nat.le_of_ble_eq_true rfl) dX2_renew_15 (fun H locs hP hD hS => ?_)
    have hP := Eq.mp (congrArg (fun z9 : va_W => va_P g.1 vwCl (z9) H) (Ss_size_0 (g := g) (a := a) (s10 := up f10 0 b) (s11 := f11) (s12 := f12) (v := 0))) hP
    have hD := Eq.mp (congrArg (fun z9 : va_W => va_D (va_A (wSs g a f10 f11 f12) s.heap.size) (z9)) (Ss_size_0 (g := g) (a := a) (s10 := up f10 0 b) (s11 := f11) (s12 := f12) (v := 0))) hD
    have hP : va_P g.1 vwCl (wSs g a (up f10 0 b) (up f11 0 0) f12) H := hP
    have hD : va_D (va_A (wSs g a f10 f11 f12) s.heap.size) (wSs g a (up f10 0 b) (up f11 0 0) f12) := hD
    refine lv_iconst (v := iI (0)) hx hb dX2_renew_18 (by decide) ?_
    refine lv_istore_n (lv' := [(3, .int (iI 0)), (0, .ref (a 0)), (1, .int (iI b)), (2, .int (iI n))]) hx hb dX2_renew_19 rfl hl (by decide) rfl (fun ls hl => ?_)
    have lp20 : ∀ (n20 : Nat) (i : Int), (0 ≤ i ∧ i ≤ 40) → (40 - i).toNat < n20 → ∀ ls : Array Slot, lv_has ls 4 [(3, .int (iI i)), (0, .ref (a 0)), (1, .int (iI b)), (2, .int (iI n))] → ∀ (H : Heap) (locs : List Loc), va_P g.1 vwCl (wSs g a (up f10 0 b) (up f11 0 0) (zrT f12 0 i)) H → va_D (va_A (wSs g a f10 f11 f12) s.heap.size) (wSs g a (up f10 0 b) (up f11 0 0) (zrT f12 0 i)) → va_S (va_A (wSs g a f10 f11 f12) s.heap.size) s.heap H locs → W pq l eq rm_X2_renew s mq [.ref (a 0), .int (iI b), .int (iI n)].toArray below meth cq H locs 0 0 (MQ below (QMv g (fun _ : Unit => wSs g a (up f10 0 b) (up f11 0 (if b = 0 then 0 else n)) (zrT f12 0 40)) (fun _ => True) (va_A (wSs g a f10 f11 f12) s.heap.size)) [.ref (a 0), .int (iI b), .int (iI n)].toArray s 0 0 (va_A (wSs g a f10 f11 f12) s.heap.size)) (F0 mq 20 ls []) := by
      intro n20
      induction n20 with
      | zero => intro i i20_1 hm; exact absurd hm (Nat.not_lt_zero _)
      | succ n20 ih20 =>
        intro i i20_1 hm20 ls hl H locs hP hD hS
        refine lv_iload_n hx hb dX2_renew_20 rfl (lv_at hl 0 rfl) ?_
        refine lv_bipush (v := iI (40)) hx hb dX2_renew_21 (by decide) ?_
        refine xi_c_ge (tgt := 39) hx hb ⟨by omega, by omega⟩ ⟨by decide, by decide⟩ dX2_renew_23 (by decide) (fun z7 => ?_) (fun z7 => ?_)
        · have he8 : (up f11 0 0) = (up f11 0 (if b = 0 then 0 else n)) := by first | (rw [if_pos (by omega)]; done) | (rw [if_neg (by omega)]; done)
          have hP := Eq.mp (congrArg (fun z9 => va_P g.1 vwCl (wSs g a (up f10 0 b) z9 (zrT f12 0 i)) H) he8) hP
          have hD := Eq.mp (congrArg (fun z9 => va_D (va_A (wSs g a f10 f11 f12) s.heap.size) (wSs g a (up f10 0 b) z9 (zrT f12 0 i))) he8) hD
          have he9 : (zrT f12 0 i) = (zrT f12 0 40) := by rw [show i = 40 by omega]
          have hP := Eq.mp (congrArg (fun z9 => va_P g.1 vwCl (wSs g a (up f10 0 b) (up f11 0 (if b = 0 then 0 else n)) z9) H) he9) hP
          have hD := Eq.mp (congrArg (fun z9 => va_D (va_A (wSs g a f10 f11 f12) s.heap.size) (wSs g a (up f10 0 b) (up f11 0 (if b = 0 then 0 else n)) z9)) he9) hD
          have hP : va_P g.1 vwCl (wSs g a (up f10 0 b) (up f11 0 (if b = 0 then 0 else n)) (zrT f12 0 40)) H := hP
          have hD : va_D (va_A (wSs g a f10 f11 f12) s.heap.size) (wSs g a (up f10 0 b) (up f11 0 (if b = 0 then 0 else n)) (zrT f12 0 40)) := hD
          exact W.vret hx hb hr (fun t ht hW => ⟨⟨(), rfl, trivial, by rw [ht]; exact hP, hD⟩, hS.F ht⟩) hS.2.2 dX2_renew_39
        · refine lv_aload_n hx hb dX2_renew_26 rfl (lv_at hl 1 rfl) ?_
          refine xg_X2 hx hb hts hown hK hP 0 rfl 0 (by decide) fk_X2_9 (v := .ref (a 1)) rfl dX2_renew_27 ?_
          refine lv_iload_n hx hb dX2_renew_30 rfl (lv_at hl 0 rfl) ?_
          refine lv_lconst (v := lI (0)) hx hb dX2_renew_31 (by decide) ?_
          refine xl_ast hx hb hK hP hD hS 1 (f := pj 0 40 (zrT f12 0 i)) rfl (i := i) (v := 0) ⟨by omega, by omega⟩ rfl dX2_renew_32 (fun H locs hP hD hS => ?_)
          have hP := Eq.mp (congrArg (fun z9 : va_W => va_P g.1 vwCl (z9) H) (Ss_numbers_0 (g := g) (a := a) (s10 := up f10 0 b) (s11 := up f11 0 0) (s12 := zrT f12 0 i) (i := i) (v := 0) ⟨by omega, by omega⟩)) hP
          have hD := Eq.mp (congrArg (fun z9 : va_W => va_D (va_A (wSs g a f10 f11 f12) s.heap.size) (z9)) (Ss_numbers_0 (g := g) (a := a) (s10 := up f10 0 b) (s11 := up f11 0 0) (s12 := zrT f12 0 i) (i := i) (v := 0) ⟨by omega, by omega⟩)) hD
          have hP : va_P g.1 vwCl (wSs g a (up f10 0 b) (up f11 0 0) (up (zrT f12 0 i) (0 + i) 0)) H := hP
          have hD : va_D (va_A (wSs g a f10 f11 f12) s.heap.size) (wSs g a (up f10 0 b) (up f11 0 0) (up (zrT f12 0 i) (0 + i) 0)) := hD
          refine xi_inc (lv' := [(3, .int (iI (i + 1))), (0, .ref (a 0)), (1, .int (iI b)), (2, .int (iI n))]) hx hb dX2_renew_33 hl (k := 0) rfl (by decide) rfl (fun ls hl => ?_)
          refine lv_goto (tgt := 20) hx hb dX2_renew_36 (by decide) ?_
          have hq10 : (up (zrT f12 0 i) (0 + i) 0) = (zrT f12 0 (i + 1)) := zrT_S f12 0 i20_1.1
          have hP := Eq.mp (congrArg (fun z9 => va_P g.1 vwCl (wSs g a (up f10 0 b) (up f11 0 0) z9) H) hq10) hP
          have hD := Eq.mp (congrArg (fun z9 => va_D (va_A (wSs g a f10 f11 f12) s.heap.size) (wSs g a (up f10 0 b) (up f11 0 0) z9)) hq10) hD
          exact ih20 (i + 1) (by omega) (by omega) ls (lv_sub hl [0, 1, 2, 3] rfl) H locs hP hD hS
    have hq11 : f12 = (zrT f12 0 0) := zrT_0 f12 0
    have hP := Eq.mp (congrArg (fun z9 => va_P g.1 vwCl (wSs g a (up f10 0 b) (up f11 0 0) z9) H) hq11) hP
    have hD := Eq.mp (congrArg (fun z9 => va_D (va_A (wSs g a f10 f11 f12) s.heap.size) (wSs g a (up f10 0 b) (up f11 0 0) z9)) hq11) hD
    exact lp20 (40 + 1) 0 (by omega) (by omega) ls (lv_sub hl [0, 1, 2, 3] rfl) H locs hP hD hS
abbrev rm_X2_put : Room := { frames := 0, cells := 0, slots := 0, locals := 0 }
set_option maxRecDepth 100000 in
set_option maxHeartbeats 4000000 in
theorem c_X2_put0 (l : Launch) (g : Gd) (a : Nat → Nat) (f10 : Int → Int) (f11 : Int → Int) (f12 : Int → Int) (i : Int) (v : Int) (sz : Nat) (h1 : IR (f10 0)) (h2 : 0 ≤ i ∧ i < 40) : Met l yX2_put (wsOf yX2_put cX2_put 4 none) rm_X2_put (PX g (wP g (wSs g a f10 f11 f12) sz) [.ref (a 0), .int (iI i), .long (lI v)]) (QMv g (fun _ : Unit => wSs g a f10 f11 (up f12 (0 + i) (nrw (f10 0) v))) (fun _ => True) (va_A (wSs g a f10 f11 f12) sz)) 0 0 (va_A (wSs g a f10 f11 f12) sz) := by
  refine me (g := g) (by decide) rfl ?_
  intro pq eq s mq below meth cq C hnm hB ls hl
  obtain ⟨hx, hb, hr, hml, hown, hts, hlocks, hK⟩ := C
  have hown : s.vm.findClass RX2 = some mq.cls := hown
  have hl : lv_has ls 4 [(0, .ref (a 0)), (1, .int (iI i)), (2, .long (lI v))] := hl
  obtain ⟨hsz, hP, hD0⟩ := hB
  subst hsz
  have hD := hD0.self (sz := s.heap.size)
  have hA : ∀ q : Nat, s.heap.size ≤ q → va_A (wSs g a f10 f11 f12) s.heap.size q := fun q h => Or.inr h
  have hS : va_S (va_A (wSs g a f10 f11 f12) s.heap.size) s.heap s.heap [] := va_S.rf
  have q1 := h1.1
  have q2 := h1.2
  refine lv_aload_n hx hb dX2_put_0 rfl (lv_at hl 0 rfl) ?_
  refine xg_X2 hx hb hts hown hK hP 0 rfl 1 (by decide) fk_X2_15 (v := .int (iI (f10 0))) rfl dX2_put_1 ?_
  have hir1 : IR (f10 0) := ⟨by omega, by omega⟩
  rcases (show (f10 0) = 8 ∨ (f10 0) = 16 ∨ (¬ (f10 0) = 8 ∧ ¬ (f10 0) = 16) by omega) with z1 | z1 | z1
  · refine lv_lookup (tgt := 32) (off := 28) hx hb dX2_put_4 (by decide) (by rw [iI_toInt hir1, z1]; decide) (by decide) ?_
    refine lv_aload_n hx hb dX2_put_32 rfl (lv_at hl 0 rfl) ?_
    refine xg_X2 hx hb hts hown hK hP 0 rfl 0 (by decide) fk_X2_9 (v := .ref (a 1)) rfl dX2_put_33 ?_
    refine lv_iload_n hx hb dX2_put_36 rfl (lv_at hl 1 rfl) ?_
    refine lv_lload_n hx hb dX2_put_37 rfl (lv_at hl 2 rfl) ?_
    refine xi_l2i hx hb dX2_put_38 ?_
    refine xi_i2b hx hb dX2_put_39 ?_
    have hb2 := n8_b v
    refine xi_i2l hx hb ⟨by omega, by omega⟩ dX2_put_40 ?_
    refine xl_ast hx hb hK hP hD hS 1 (f := pj 0 40 f12) rfl (i := i) (v := n8 v) ⟨by omega, by omega⟩ rfl dX2_put_41 (fun H locs hP hD hS => ?_)
    have hP := Eq.mp (congrArg (fun z9 : va_W => va_P g.1 vwCl (z9) H) (Ss_numbers_0 (g := g) (a := a) (s10 := f10) (s11 := f11) (s12 := f12) (i := i) (v := n8 v) ⟨by omega, by omega⟩)) hP
    have hD := Eq.mp (congrArg (fun z9 : va_W => va_D (va_A (wSs g a f10 f11 f12) s.heap.size) (z9)) (Ss_numbers_0 (g := g) (a := a) (s10 := f10) (s11 := f11) (s12 := f12) (i := i) (v := n8 v) ⟨by omega, by omega⟩)) hD
    have hP : va_P g.1 vwCl (wSs g a f10 f11 (up f12 (0 + i) (n8 v))) H := hP
    have hD : va_D (va_A (wSs g a f10 f11 f12) s.heap.size) (wSs g a f10 f11 (up f12 (0 + i) (n8 v))) := hD
    refine lv_goto (tgt := 65) hx hb dX2_put_42 (by decide) ?_
    have he3 : (up f12 (0 + i) (n8 v)) = (up f12 (0 + i) (nrw (f10 0) v)) := by unfold nrw; first | (rw [if_pos (by omega)]; done) | (rw [if_neg (by omega), if_pos (by omega)]; done) | (rw [if_neg (by omega), if_neg (by omega)]; done)
    have hP := Eq.mp (congrArg (fun z9 => va_P g.1 vwCl (wSs g a f10 f11 z9) H) he3) hP
    have hD := Eq.mp (congrArg (fun z9 => va_D (va_A (wSs g a f10 f11 f12) s.heap.size) (wSs g a f10 f11 z9)) he3) hD
    have hP : va_P g.1 vwCl (wSs g a f10 f11 (up f12 (0 + i) (nrw (f10 0) v))) H := hP
    have hD : va_D (va_A (wSs g a f10 f11 f12) s.heap.size) (wSs g a f10 f11 (up f12 (0 + i) (nrw (f10 0) v))) := hD
    exact W.vret hx hb hr (fun t ht hW => ⟨⟨(), rfl, trivial, by rw [ht]; exact hP, hD⟩, hS.F ht⟩) hS.2.2 dX2_put_65
  · refine lv_lookup (tgt := 45) (off := 41) hx hb dX2_put_4 (by decide) (by rw [iI_toInt hir1, z1]; decide) (by decide) ?_
    refine lv_aload_n hx hb dX2_put_45 rfl (lv_at hl 0 rfl) ?_
    refine xg_X2 hx hb hts hown hK hP 0 rfl 0 (by decide) fk_X2_9 (v := .ref (a 1)) rfl dX2_put_46 ?_
    refine lv_iload_n hx hb dX2_put_49 rfl (lv_at hl 1 rfl) ?_
    refine lv_lload_n hx hb dX2_put_50 rfl (lv_at hl 2 rfl) ?_
    refine xi_l2i hx hb dX2_put_51 ?_
    refine xi_i2s hx hb dX2_put_52 ?_
    have hb4 := n16_b v
    refine xi_i2l hx hb ⟨by omega, by omega⟩ dX2_put_53 ?_
    refine xl_ast hx hb hK hP hD hS 1 (f := pj 0 40 f12) rfl (i := i) (v := n16 v) ⟨by omega, by omega⟩ rfl dX2_put_54 (fun H locs hP hD hS => ?_)
    have hP := Eq.mp (congrArg (fun z9 : va_W => va_P g.1 vwCl (z9) H) (Ss_numbers_0 (g := g) (a := a) (s10 := f10) (s11 := f11) (s12 := f12) (i := i) (v := n16 v) ⟨by omega, by omega⟩)) hP
    have hD := Eq.mp (congrArg (fun z9 : va_W => va_D (va_A (wSs g a f10 f11 f12) s.heap.size) (z9)) (Ss_numbers_0 (g := g) (a := a) (s10 := f10) (s11 := f11) (s12 := f12) (i := i) (v := n16 v) ⟨by omega, by omega⟩)) hD
    have hP : va_P g.1 vwCl (wSs g a f10 f11 (up f12 (0 + i) (n16 v))) H := hP
    have hD : va_D (va_A (wSs g a f10 f11 f12) s.heap.size) (wSs g a f10 f11 (up f12 (0 + i) (n16 v))) := hD
    refine lv_goto (tgt := 65) hx hb dX2_put_55 (by decide) ?_
    have he5 : (up f12 (0 + i) (n16 v)) = (up f12 (0 + i) (nrw (f10 0) v)) := by unfold nrw; first | (rw [if_pos (by omega)]; done) | (rw [if_neg (by omega), if_pos (by omega)]; done) | (rw [if_neg (by omega), if_neg (by omega)]; done)
    have hP := Eq.mp (congrArg (fun z9 => va_P g.1 vwCl (wSs g a f10 f11 z9) H) he5) hP
    have hD := Eq.mp (congrArg (fun z9 => va_D (va_A (wSs g a f10 f11 f12) s.heap.size) (wSs g a f10 f11 z9)) he5) hD
    have hP : va_P g.1 vwCl (wSs g a f10 f11 (up f12 (0 + i) (nrw (f10 0) v))) H := hP
    have hD : va_D (va_A (wSs g a f10 f11 f12) s.heap.size) (wSs g a f10 f11 (up f12 (0 + i) (nrw (f10 0) v))) := hD
    exact W.vret hx hb hr (fun t ht hW => ⟨⟨(), rfl, trivial, by rw [ht]; exact hP, hD⟩, hS.F ht⟩) hS.2.2 dX2_put_65
  · refine lv_lookup (tgt := 58) (off := 54) hx hb dX2_put_4 (by decide) (by rw [iI_toInt hir1]; exact lku_no2 z1) (by decide) ?_
    refine lv_aload_n hx hb dX2_put_58 rfl (lv_at hl 0 rfl) ?_
    refine xg_X2 hx hb hts hown hK hP 0 rfl 0 (by decide) fk_X2_9 (v := .ref (a 1)) rfl dX2_put_59 ?_
    refine lv_iload_n hx hb dX2_put_62 rfl (lv_at hl 1 rfl) ?_
    refine lv_lload_n hx hb dX2_put_63 rfl (lv_at hl 2 rfl) ?_
    refine xl_ast hx hb hK hP hD hS 1 (f := pj 0 40 f12) rfl (i := i) (v := v) ⟨by omega, by omega⟩ rfl dX2_put_64 (fun H locs hP hD hS => ?_)
    have hP := Eq.mp (congrArg (fun z9 : va_W => va_P g.1 vwCl (z9) H) (Ss_numbers_0 (g := g) (a := a) (s10 := f10) (s11 := f11) (s12 := f12) (i := i) (v := v) ⟨by omega, by omega⟩)) hP
    have hD := Eq.mp (congrArg (fun z9 : va_W => va_D (va_A (wSs g a f10 f11 f12) s.heap.size) (z9)) (Ss_numbers_0 (g := g) (a := a) (s10 := f10) (s11 := f11) (s12 := f12) (i := i) (v := v) ⟨by omega, by omega⟩)) hD
    have hP : va_P g.1 vwCl (wSs g a f10 f11 (up f12 (0 + i) v)) H := hP
    have hD : va_D (va_A (wSs g a f10 f11 f12) s.heap.size) (wSs g a f10 f11 (up f12 (0 + i) v)) := hD
    have he6 : (up f12 (0 + i) v) = (up f12 (0 + i) (nrw (f10 0) v)) := by unfold nrw; first | (rw [if_pos (by omega)]; done) | (rw [if_neg (by omega), if_pos (by omega)]; done) | (rw [if_neg (by omega), if_neg (by omega)]; done)
    have hP := Eq.mp (congrArg (fun z9 => va_P g.1 vwCl (wSs g a f10 f11 z9) H) he6) hP
    have hD := Eq.mp (congrArg (fun z9 => va_D (va_A (wSs g a f10 f11 f12) s.heap.size) (wSs g a f10 f11 z9)) he6) hD
    have hP : va_P g.1 vwCl (wSs g a f10 f11 (up f12 (0 + i) (nrw (f10 0) v))) H := hP
    have hD : va_D (va_A (wSs g a f10 f11 f12) s.heap.size) (wSs g a f10 f11 (up f12 (0 + i) (nrw (f10 0) v))) := hD
    exact W.vret hx hb hr (fun t ht hW => ⟨⟨(), rfl, trivial, by rw [ht]; exact hP, hD⟩, hS.F ht⟩) hS.2.2 dX2_put_65
set_option maxRecDepth 100000 in
set_option maxHeartbeats 4000000 in
theorem c_X2_isMissing1 (l : Launch) (g : Gd) (a : Nat → Nat) (f10 : Int → Int) (f11 : Int → Int) (f12 : Int → Int) (h1 : IR (f10 1)) : Met l yX2_isMissing (wsOf yX2_isMissing cX2_isMissing 1 (some .boolean)) rm_X2_isMissing (PX g (va_P g.1 vwCl (wSs g a f10 f11 f12)) [.ref (a 2)]) (vp_Si (fun r9 => r9 = iI (bI (f10 1 = 0)))) 0 0 (fun _ => False) := by
  refine me (g := g) (by decide) rfl ?_
  intro pq eq s mq below meth cq C hnm hB ls hl
  obtain ⟨hx, hb, hr, hml, hown, hts, hlocks, hK⟩ := C
  have hown : s.vm.findClass RX2 = some mq.cls := hown
  have hl : lv_has ls 1 [(0, .ref (a 2))] := hl
  have hP : va_P g.1 vwCl (wSs g a f10 f11 f12) s.heap := hB
  have q1 := h1.1
  have q2 := h1.2
  refine lv_aload_n hx hb dX2_isMissing_0 rfl (lv_at hl 0 rfl) ?_
  refine xg_X2 hx hb hts hown hK hP 2 rfl 1 (by decide) fk_X2_15 (v := .int (iI (f10 1))) rfl dX2_isMissing_1 ?_
  refine xi_z_ne (tgt := 11) hx hb ⟨by omega, by omega⟩ dX2_isMissing_4 (by decide) (fun z1 => ?_) (fun z1 => ?_)
  · refine lv_iconst (v := iI (0)) hx hb dX2_isMissing_11 (by decide) ?_
    exact W.zret hx hb hr (by decide) (fun t ht hW => ⟨_, rfl, by rw [bI_f (by omega)], ht⟩) (fun q h => by cases h) dX2_isMissing_12
  · refine lv_iconst (v := iI (1)) hx hb dX2_isMissing_7 (by decide) ?_
    refine lv_goto (tgt := 12) hx hb dX2_isMissing_8 (by decide) ?_
    exact W.zret hx hb hr (by decide) (fun t ht hW => ⟨_, rfl, by rw [bI_t (by omega)], ht⟩) (fun q h => by cases h) dX2_isMissing_12
set_option maxRecDepth 100000 in
set_option maxHeartbeats 4000000 in
theorem c_X2_holds1 (l : Launch) (g : Gd) (a : Nat → Nat) (f10 : Int → Int) (f11 : Int → Int) (f12 : Int → Int) (x : Int) (n : Int) (h1 : 0 ≤ f11 1 ∧ f11 1 ≤ 40) (h2 : IR x) (h3 : IR n) : Met l yX2_holds (wsOf yX2_holds cX2_holds 3 (some .boolean)) rm_X2_holds (PX g (va_P g.1 vwCl (wSs g a f10 f11 f12)) [.ref (a 2), .int (iI x), .int (iI n)]) (vp_Si (fun r9 => r9 = iI (bI (0 ≤ x ∧ 0 ≤ n ∧ n ≤ f11 1 ∧ x ≤ f11 1 - n)))) 0 0 (fun _ => False) := by
  refine me (g := g) (by decide) rfl ?_
  intro pq eq s mq below meth cq C hnm hB ls hl
  obtain ⟨hx, hb, hr, hml, hown, hts, hlocks, hK⟩ := C
  have hown : s.vm.findClass RX2 = some mq.cls := hown
  have hl : lv_has ls 3 [(0, .ref (a 2)), (1, .int (iI x)), (2, .int (iI n))] := hl
  have hP : va_P g.1 vwCl (wSs g a f10 f11 f12) s.heap := hB
  have q1 := h2.1
  have q2 := h2.2
  have q3 := h3.1
  have q4 := h3.2
  refine lv_iload_n hx hb dX2_holds_0 rfl (lv_at hl 1 rfl) ?_
  refine xi_z_lt (tgt := 30) hx hb ⟨by omega, by omega⟩ dX2_holds_1 (by decide) (fun z1 => ?_) (fun z1 => ?_)
  · refine lv_iconst (v := iI (0)) hx hb dX2_holds_30 (by decide) ?_
    exact W.zret hx hb hr (by decide) (fun t ht hW => ⟨_, rfl, by rw [bI_f (by omega)], ht⟩) (fun q h => by cases h) dX2_holds_31
  · refine lv_iload_n hx hb dX2_holds_4 rfl (lv_at hl 2 rfl) ?_
    refine xi_z_lt (tgt := 30) hx hb ⟨by omega, by omega⟩ dX2_holds_5 (by decide) (fun z2 => ?_) (fun z2 => ?_)
    · refine lv_iconst (v := iI (0)) hx hb dX2_holds_30 (by decide) ?_
      exact W.zret hx hb hr (by decide) (fun t ht hW => ⟨_, rfl, by rw [bI_f (by omega)], ht⟩) (fun q h => by cases h) dX2_holds_31
    · refine lv_iload_n hx hb dX2_holds_8 rfl (lv_at hl 2 rfl) ?_
      refine lv_aload_n hx hb dX2_holds_9 rfl (lv_at hl 0 rfl) ?_
      refine xg_X2 hx hb hts hown hK hP 2 rfl 2 (by decide) fk_X2_19 (v := .int (iI (f11 1))) rfl dX2_holds_10 ?_
      refine xi_c_gt (tgt := 30) hx hb ⟨by omega, by omega⟩ ⟨by omega, by omega⟩ dX2_holds_13 (by decide) (fun z3 => ?_) (fun z3 => ?_)
      · refine lv_iconst (v := iI (0)) hx hb dX2_holds_30 (by decide) ?_
        exact W.zret hx hb hr (by decide) (fun t ht hW => ⟨_, rfl, by rw [bI_f (by omega)], ht⟩) (fun q h => by cases h) dX2_holds_31
      · refine lv_iload_n hx hb dX2_holds_16 rfl (lv_at hl 1 rfl) ?_
        refine lv_aload_n hx hb dX2_holds_17 rfl (lv_at hl 0 rfl) ?_
        refine xg_X2 hx hb hts hown hK hP 2 rfl 2 (by decide) fk_X2_19 (v := .int (iI (f11 1))) rfl dX2_holds_18 ?_
        refine lv_iload_n hx hb dX2_holds_21 rfl (lv_at hl 2 rfl) ?_
        refine xi_sub hx hb dX2_holds_22 ?_
        refine xi_c_gt (tgt := 30) hx hb ⟨by omega, by omega⟩ ⟨by omega, by omega⟩ dX2_holds_23 (by decide) (fun z4 => ?_) (fun z4 => ?_)
        · refine lv_iconst (v := iI (0)) hx hb dX2_holds_30 (by decide) ?_
          exact W.zret hx hb hr (by decide) (fun t ht hW => ⟨_, rfl, by rw [bI_f (by omega)], ht⟩) (fun q h => by cases h) dX2_holds_31
        · refine lv_iconst (v := iI (1)) hx hb dX2_holds_26 (by decide) ?_
          refine lv_goto (tgt := 31) hx hb dX2_holds_27 (by decide) ?_
          exact W.zret hx hb hr (by decide) (fun t ht hW => ⟨_, rfl, by rw [bI_t (by omega)], ht⟩) (fun q h => by cases h) dX2_holds_31
set_option maxRecDepth 100000 in
set_option maxHeartbeats 4000000 in
theorem c_X2_renew1 (l : Launch) (g : Gd) (a : Nat → Nat) (f10 : Int → Int) (f11 : Int → Int) (f12 : Int → Int) (b : Int) (n : Int) (sz : Nat) (h1 : IR b) : Met l yX2_renew (wsOf yX2_renew cX2_renew 4 none) rm_X2_renew (PX g (wP g (wSs g a f10 f11 f12) sz) [.ref (a 2), .int (iI b), .int (iI n)]) (QMv g (fun _ : Unit => wSs g a (up f10 1 b) (up f11 1 (if b = 0 then 0 else n)) (zrT f12 40 40)) (fun _ => True) (va_A (wSs g a f10 f11 f12) sz)) 0 0 (va_A (wSs g a f10 f11 f12) sz) := by
  refine me (g := g) (by decide) rfl ?_
  intro pq eq s mq below meth cq C hnm hB ls hl
  obtain ⟨hx, hb, hr, hml, hown, hts, hlocks, hK⟩ := C
  have hown : s.vm.findClass RX2 = some mq.cls := hown
  have hl : lv_has ls 4 [(0, .ref (a 2)), (1, .int (iI b)), (2, .int (iI n))] := hl
  obtain ⟨hsz, hP, hD0⟩ := hB
  subst hsz
  have hD := hD0.self (sz := s.heap.size)
  have hA : ∀ q : Nat, s.heap.size ≤ q → va_A (wSs g a f10 f11 f12) s.heap.size q := fun q h => Or.inr h
  have hS : va_S (va_A (wSs g a f10 f11 f12) s.heap.size) s.heap s.heap [] := va_S.rf
  have q1 := h1.1
  have q2 := h1.2
  refine lv_aload_n hx hb dX2_renew_0 rfl (lv_at hl 0 rfl) ?_
  refine lv_iload_n hx hb dX2_renew_1 rfl (lv_at hl 1 rfl) ?_
  refine xp_X2 hx hb hts hown hK hP hD hS 2 rfl 1 (by decide) fk_X2_15 rfl (v := .int (iI b)) rfl rfl (Nat.le_of_ble_eq_true rfl) dX2_renew_2 (fun H locs hP hD hS => ?_)
  have hP := Eq.mp (congrArg (fun z9 : va_W => va_P g.1 vwCl (z9) H) (Ss_bits_1 (g := g) (a := a) (s10 := f10) (s11 := f11) (s12 := f12) (v := b))) hP
  have hD := Eq.mp (congrArg (fun z9 : va_W => va_D (va_A (wSs g a f10 f11 f12) s.heap.size) (z9)) (Ss_bits_1 (g := g) (a := a) (s10 := f10) (s11 := f11) (s12 := f12) (v := b))) hD
  have hP : va_P g.1 vwCl (wSs g a (up f10 1 b) f11 f12) H := hP
  have hD : va_D (va_A (wSs g a f10 f11 f12) s.heap.size) (wSs g a (up f10 1 b) f11 f12) := hD
  refine lv_aload_n hx hb dX2_renew_5 rfl (lv_at hl 0 rfl) ?_
  refine lv_iload_n hx hb dX2_renew_6 rfl (lv_at hl 1 rfl) ?_
  refine xi_z_ne (tgt := 14) hx hb ⟨by omega, by omega⟩ dX2_renew_7 (by decide) (fun z1 => ?_) (fun z1 => ?_)
  · refine lv_iload_n hx hb dX2_renew_14 rfl (lv_at hl 2 rfl) ?_
    refine xp_X2 hx hb hts hown hK hP hD hS 2 rfl 2 (by decide) fk_X2_19 rfl (v := .int (iI n)) rfl rfl (Nat.le_of_ble_eq_true rfl) dX2_renew_15 (fun H locs hP hD hS => ?_)
    have hP := Eq.mp (congrArg (fun z9 : va_W => va_P g.1 vwCl (z9) H) (Ss_size_1 (g := g) (a := a) (s10 := up f10 1 b) (s11 := f11) (s12 := f12) (v := n))) hP
    have hD := Eq.mp (congrArg (fun z9 : va_W => va_D (va_A (wSs g a f10 f11 f12) s.heap.size) (z9)) (Ss_size_1 (g := g) (a := a) (s10 := up f10 1 b) (s11 := f11) (s12 := f12) (v := n))) hD
    have hP : va_P g.1 vwCl (wSs g a (up f10 1 b) (up f11 1 n) f12) H := hP
    have hD : va_D (va_A (wSs g a f10 f11 f12) s.heap.size) (wSs g a (up f10 1 b) (up f11 1 n) f12) := hD
    refine lv_iconst (v := iI (0)) hx hb dX2_renew_18 (by decide) ?_
    refine lv_istore_n (lv' := [(3, .int (iI 0)), (0, .ref (a 2)), (1, .int (iI b)), (2, .int (iI n))]) hx hb dX2_renew_19 rfl hl (by decide) rfl (fun ls hl => ?_)
    have lp20 : ∀ (n20 : Nat) (i : Int), (0 ≤ i ∧ i ≤ 40) → (40 - i).toNat < n20 → ∀ ls : Array Slot, lv_has ls 4 [(3, .int (iI i)), (0, .ref (a 2)), (1, .int (iI b)), (2, .int (iI n))] → ∀ (H : Heap) (locs : List Loc), va_P g.1 vwCl (wSs g a (up f10 1 b) (up f11 1 n) (zrT f12 40 i)) H → va_D (va_A (wSs g a f10 f11 f12) s.heap.size) (wSs g a (up f10 1 b) (up f11 1 n) (zrT f12 40 i)) → va_S (va_A (wSs g a f10 f11 f12) s.heap.size) s.heap H locs → W pq l eq rm_X2_renew s mq [.ref (a 2), .int (iI b), .int (iI n)].toArray below meth cq H locs 0 0 (MQ below (QMv g (fun _ : Unit => wSs g a (up f10 1 b) (up f11 1 (if b = 0 then 0 else n)) (zrT f12 40 40)) (fun _ => True) (va_A (wSs g a f10 f11 f12) s.heap.size)) [.ref (a 2), .int (iI b), .int (iI n)].toArray s 0 0 (va_A (wSs g a f10 f11 f12) s.heap.size)) (F0 mq 20 ls []) := by
      intro n20
      induction n20 with
      | zero => intro i i20_1 hm; exact absurd hm (Nat.not_lt_zero _)
      | succ n20 ih20 =>
        intro i i20_1 hm20 ls hl H locs hP hD hS
        refine lv_iload_n hx hb dX2_renew_20 rfl (lv_at hl 0 rfl) ?_
        refine lv_bipush (v := iI (40)) hx hb dX2_renew_21 (by decide) ?_
        refine xi_c_ge (tgt := 39) hx hb ⟨by omega, by omega⟩ ⟨by decide, by decide⟩ dX2_renew_23 (by decide) (fun z2 => ?_) (fun z2 => ?_)
        · have he3 : (up f11 1 n) = (up f11 1 (if b = 0 then 0 else n)) := by first | (rw [if_pos (by omega)]; done) | (rw [if_neg (by omega)]; done)
          have hP := Eq.mp (congrArg (fun z9 => va_P g.1 vwCl (wSs g a (up f10 1 b) z9 (zrT f12 40 i)) H) he3) hP
          have hD := Eq.mp (congrArg (fun z9 => va_D (va_A (wSs g a f10 f11 f12) s.heap.size) (wSs g a (up f10 1 b) z9 (zrT f12 40 i))) he3) hD
          have he4 : (zrT f12 40 i) = (zrT f12 40 40) := by rw [show i = 40 by omega]
          have hP := Eq.mp (congrArg (fun z9 => va_P g.1 vwCl (wSs g a (up f10 1 b) (up f11 1 (if b = 0 then 0 else n)) z9) H) he4) hP
          have hD := Eq.mp (congrArg (fun z9 => va_D (va_A (wSs g a f10 f11 f12) s.heap.size) (wSs g a (up f10 1 b) (up f11 1 (if b = 0 then 0 else n)) z9)) he4) hD
          have hP : va_P g.1 vwCl (wSs g a (up f10 1 b) (up f11 1 (if b = 0 then 0 else n)) (zrT f12 40 40)) H := hP
          have hD : va_D (va_A (wSs g a f10 f11 f12) s.heap.size) (wSs g a (up f10 1 b) (up f11 1 (if b = 0 then 0 else n)) (zrT f12 40 40)) := hD
          exact W.vret hx hb hr (fun t ht hW => ⟨⟨(), rfl, trivial, by rw [ht]; exact hP, hD⟩, hS.F ht⟩) hS.2.2 dX2_renew_39
        · refine lv_aload_n hx hb dX2_renew_26 rfl (lv_at hl 1 rfl) ?_
          refine xg_X2 hx hb hts hown hK hP 2 rfl 0 (by decide) fk_X2_9 (v := .ref (a 3)) rfl dX2_renew_27 ?_
          refine lv_iload_n hx hb dX2_renew_30 rfl (lv_at hl 0 rfl) ?_
          refine lv_lconst (v := lI (0)) hx hb dX2_renew_31 (by decide) ?_
          refine xl_ast hx hb hK hP hD hS 3 (f := pj 40 40 (zrT f12 40 i)) rfl (i := i) (v := 0) ⟨by omega, by omega⟩ rfl dX2_renew_32 (fun H locs hP hD hS => ?_)
          have hP := Eq.mp (congrArg (fun z9 : va_W => va_P g.1 vwCl (z9) H) (Ss_numbers_1 (g := g) (a := a) (s10 := up f10 1 b) (s11 := up f11 1 n) (s12 := zrT f12 40 i) (i := i) (v := 0) ⟨by omega, by omega⟩)) hP
          have hD := Eq.mp (congrArg (fun z9 : va_W => va_D (va_A (wSs g a f10 f11 f12) s.heap.size) (z9)) (Ss_numbers_1 (g := g) (a := a) (s10 := up f10 1 b) (s11 := up f11 1 n) (s12 := zrT f12 40 i) (i := i) (v := 0) ⟨by omega, by omega⟩)) hD
          have hP : va_P g.1 vwCl (wSs g a (up f10 1 b) (up f11 1 n) (up (zrT f12 40 i) (40 + i) 0)) H := hP
          have hD : va_D (va_A (wSs g a f10 f11 f12) s.heap.size) (wSs g a (up f10 1 b) (up f11 1 n) (up (zrT f12 40 i) (40 + i) 0)) := hD
          refine xi_inc (lv' := [(3, .int (iI (i + 1))), (0, .ref (a 2)), (1, .int (iI b)), (2, .int (iI n))]) hx hb dX2_renew_33 hl (k := 0) rfl (by decide) rfl (fun ls hl => ?_)
          refine lv_goto (tgt := 20) hx hb dX2_renew_36 (by decide) ?_
          have hq5 : (up (zrT f12 40 i) (40 + i) 0) = (zrT f12 40 (i + 1)) := zrT_S f12 40 i20_1.1
          have hP := Eq.mp (congrArg (fun z9 => va_P g.1 vwCl (wSs g a (up f10 1 b) (up f11 1 n) z9) H) hq5) hP
          have hD := Eq.mp (congrArg (fun z9 => va_D (va_A (wSs g a f10 f11 f12) s.heap.size) (wSs g a (up f10 1 b) (up f11 1 n) z9)) hq5) hD
          exact ih20 (i + 1) (by omega) (by omega) ls (lv_sub hl [0, 1, 2, 3] rfl) H locs hP hD hS
    have hq6 : f12 = (zrT f12 40 0) := zrT_0 f12 40
    have hP := Eq.mp (congrArg (fun z9 => va_P g.1 vwCl (wSs g a (up f10 1 b) (up f11 1 n) z9) H) hq6) hP
    have hD := Eq.mp (congrArg (fun z9 => va_D (va_A (wSs g a f10 f11 f12) s.heap.size) (wSs g a (up f10 1 b) (up f11 1 n) z9)) hq6) hD
    exact lp20 (40 + 1) 0 (by omega) (by omega) ls (lv_sub hl [0, 1, 2, 3] rfl) H locs hP hD hS
  · refine lv_iconst (v := iI (0)) hx hb dX2_renew_10 (by decide) ?_
    refine lv_goto (tgt := 15) hx hb dX2_renew_11 (by decide) ?_
    refine xp_X2 hx hb hts hown hK hP hD hS 2 rfl 2 (by decide) fk_X2_19 rfl (v := .int (iI 0)) rfl rfl (Nat.le_of_ble_eq_true rfl) dX2_renew_15 (fun H locs hP hD hS => ?_)
    have hP := Eq.mp (congrArg (fun z9 : va_W => va_P g.1 vwCl (z9) H) (Ss_size_1 (g := g) (a := a) (s10 := up f10 1 b) (s11 := f11) (s12 := f12) (v := 0))) hP
    have hD := Eq.mp (congrArg (fun z9 : va_W => va_D (va_A (wSs g a f10 f11 f12) s.heap.size) (z9)) (Ss_size_1 (g := g) (a := a) (s10 := up f10 1 b) (s11 := f11) (s12 := f12) (v := 0))) hD
    have hP : va_P g.1 vwCl (wSs g a (up f10 1 b) (up f11 1 0) f12) H := hP
    have hD : va_D (va_A (wSs g a f10 f11 f12) s.heap.size) (wSs g a (up f10 1 b) (up f11 1 0) f12) := hD
    refine lv_iconst (v := iI (0)) hx hb dX2_renew_18 (by decide) ?_
    refine lv_istore_n (lv' := [(3, .int (iI 0)), (0, .ref (a 2)), (1, .int (iI b)), (2, .int (iI n))]) hx hb dX2_renew_19 rfl hl (by decide) rfl (fun ls hl => ?_)
    have lp20 : ∀ (n20 : Nat) (i : Int), (0 ≤ i ∧ i ≤ 40) → (40 - i).toNat < n20 → ∀ ls : Array Slot, lv_has ls 4 [(3, .int (iI i)), (0, .ref (a 2)), (1, .int (iI b)), (2, .int (iI n))] → ∀ (H : Heap) (locs : List Loc), va_P g.1 vwCl (wSs g a (up f10 1 b) (up f11 1 0) (zrT f12 40 i)) H → va_D (va_A (wSs g a f10 f11 f12) s.heap.size) (wSs g a (up f10 1 b) (up f11 1 0) (zrT f12 40 i)) → va_S (va_A (wSs g a f10 f11 f12) s.heap.size) s.heap H locs → W pq l eq rm_X2_renew s mq [.ref (a 2), .int (iI b), .int (iI n)].toArray below meth cq H locs 0 0 (MQ below (QMv g (fun _ : Unit => wSs g a (up f10 1 b) (up f11 1 (if b = 0 then 0 else n)) (zrT f12 40 40)) (fun _ => True) (va_A (wSs g a f10 f11 f12) s.heap.size)) [.ref (a 2), .int (iI b), .int (iI n)].toArray s 0 0 (va_A (wSs g a f10 f11 f12) s.heap.size)) (F0 mq 20 ls []) := by
      intro n20
      induction n20 with
      | zero => intro i i20_1 hm; exact absurd hm (Nat.not_lt_zero _)
      | succ n20 ih20 =>
        intro i i20_1 hm20 ls hl H locs hP hD hS
        refine lv_iload_n hx hb dX2_renew_20 rfl (lv_at hl 0 rfl) ?_
        refine lv_bipush (v := iI (40)) hx hb dX2_renew_21 (by decide) ?_
        refine xi_c_ge (tgt := 39) hx hb ⟨by omega, by omega⟩ ⟨by decide, by decide⟩ dX2_renew_23 (by decide) (fun z7 => ?_) (fun z7 => ?_)
        · have he8 : (up f11 1 0) = (up f11 1 (if b = 0 then 0 else n)) := by first | (rw [if_pos (by omega)]; done) | (rw [if_neg (by omega)]; done)
          have hP := Eq.mp (congrArg (fun z9 => va_P g.1 vwCl (wSs g a (up f10 1 b) z9 (zrT f12 40 i)) H) he8) hP
          have hD := Eq.mp (congrArg (fun z9 => va_D (va_A (wSs g a f10 f11 f12) s.heap.size) (wSs g a (up f10 1 b) z9 (zrT f12 40 i))) he8) hD
          have he9 : (zrT f12 40 i) = (zrT f12 40 40) := by rw [show i = 40 by omega]
          have hP := Eq.mp (congrArg (fun z9 => va_P g.1 vwCl (wSs g a (up f10 1 b) (up f11 1 (if b = 0 then 0 else n)) z9) H) he9) hP
          have hD := Eq.mp (congrArg (fun z9 => va_D (va_A (wSs g a f10 f11 f12) s.heap.size) (wSs g a (up f10 1 b) (up f11 1 (if b = 0 then 0 else n)) z9)) he9) hD
          have hP : va_P g.1 vwCl (wSs g a (up f10 1 b) (up f11 1 (if b = 0 then 0 else n)) (zrT f12 40 40)) H := hP
          have hD : va_D (va_A (wSs g a f10 f11 f12) s.heap.size) (wSs g a (up f10 1 b) (up f11 1 (if b = 0 then 0 else n)) (zrT f12 40 40)) := hD
          exact W.vret hx hb hr (fun t ht hW => ⟨⟨(), rfl, trivial, by rw [ht]; exact hP, hD⟩, hS.F ht⟩) hS.2.2 dX2_renew_39
        · refine lv_aload_n hx hb dX2_renew_26 rfl (lv_at hl 1 rfl) ?_
          refine xg_X2 hx hb hts hown hK hP 2 rfl 0 (by decide) fk_X2_9 (v := .ref (a 3)) rfl dX2_renew_27 ?_
          refine lv_iload_n hx hb dX2_renew_30 rfl (lv_at hl 0 rfl) ?_
          refine lv_lconst (v := lI (0)) hx hb dX2_renew_31 (by decide) ?_
          refine xl_ast hx hb hK hP hD hS 3 (f := pj 40 40 (zrT f12 40 i)) rfl (i := i) (v := 0) ⟨by omega, by omega⟩ rfl dX2_renew_32 (fun H locs hP hD hS => ?_)
          have hP := Eq.mp (congrArg (fun z9 : va_W => va_P g.1 vwCl (z9) H) (Ss_numbers_1 (g := g) (a := a) (s10 := up f10 1 b) (s11 := up f11 1 0) (s12 := zrT f12 40 i) (i := i) (v := 0) ⟨by omega, by omega⟩)) hP
          have hD := Eq.mp (congrArg (fun z9 : va_W => va_D (va_A (wSs g a f10 f11 f12) s.heap.size) (z9)) (Ss_numbers_1 (g := g) (a := a) (s10 := up f10 1 b) (s11 := up f11 1 0) (s12 := zrT f12 40 i) (i := i) (v := 0) ⟨by omega, by omega⟩)) hD
          have hP : va_P g.1 vwCl (wSs g a (up f10 1 b) (up f11 1 0) (up (zrT f12 40 i) (40 + i) 0)) H := hP
          have hD : va_D (va_A (wSs g a f10 f11 f12) s.heap.size) (wSs g a (up f10 1 b) (up f11 1 0) (up (zrT f12 40 i) (40 + i) 0)) := hD
          refine xi_inc (lv' := [(3, .int (iI (i + 1))), (0, .ref (a 2)), (1, .int (iI b)), (2, .int (iI n))]) hx hb dX2_renew_33 hl (k := 0) rfl (by decide) rfl (fun ls hl => ?_)
          refine lv_goto (tgt := 20) hx hb dX2_renew_36 (by decide) ?_
          have hq10 : (up (zrT f12 40 i) (40 + i) 0) = (zrT f12 40 (i + 1)) := zrT_S f12 40 i20_1.1
          have hP := Eq.mp (congrArg (fun z9 => va_P g.1 vwCl (wSs g a (up f10 1 b) (up f11 1 0) z9) H) hq10) hP
          have hD := Eq.mp (congrArg (fun z9 => va_D (va_A (wSs g a f10 f11 f12) s.heap.size) (wSs g a (up f10 1 b) (up f11 1 0) z9)) hq10) hD
          exact ih20 (i + 1) (by omega) (by omega) ls (lv_sub hl [0, 1, 2, 3] rfl) H locs hP hD hS
    have hq11 : f12 = (zrT f12 40 0) := zrT_0 f12 40
    have hP := Eq.mp (congrArg (fun z9 => va_P g.1 vwCl (wSs g a (up f10 1 b) (up f11 1 0) z9) H) hq11) hP
    have hD := Eq.mp (congrArg (fun z9 => va_D (va_A (wSs g a f10 f11 f12) s.heap.size) (wSs g a (up f10 1 b) (up f11 1 0) z9)) hq11) hD
    exact lp20 (40 + 1) 0 (by omega) (by omega) ls (lv_sub hl [0, 1, 2, 3] rfl) H locs hP hD hS
set_option maxRecDepth 100000 in
set_option maxHeartbeats 4000000 in
theorem c_X2_put1 (l : Launch) (g : Gd) (a : Nat → Nat) (f10 : Int → Int) (f11 : Int → Int) (f12 : Int → Int) (i : Int) (v : Int) (sz : Nat) (h1 : IR (f10 1)) (h2 : 0 ≤ i ∧ i < 40) : Met l yX2_put (wsOf yX2_put cX2_put 4 none) rm_X2_put (PX g (wP g (wSs g a f10 f11 f12) sz) [.ref (a 2), .int (iI i), .long (lI v)]) (QMv g (fun _ : Unit => wSs g a f10 f11 (up f12 (40 + i) (nrw (f10 1) v))) (fun _ => True) (va_A (wSs g a f10 f11 f12) sz)) 0 0 (va_A (wSs g a f10 f11 f12) sz) := by
  refine me (g := g) (by decide) rfl ?_
  intro pq eq s mq below meth cq C hnm hB ls hl
  obtain ⟨hx, hb, hr, hml, hown, hts, hlocks, hK⟩ := C
  have hown : s.vm.findClass RX2 = some mq.cls := hown
  have hl : lv_has ls 4 [(0, .ref (a 2)), (1, .int (iI i)), (2, .long (lI v))] := hl
  obtain ⟨hsz, hP, hD0⟩ := hB
  subst hsz
  have hD := hD0.self (sz := s.heap.size)
  have hA : ∀ q : Nat, s.heap.size ≤ q → va_A (wSs g a f10 f11 f12) s.heap.size q := fun q h => Or.inr h
  have hS : va_S (va_A (wSs g a f10 f11 f12) s.heap.size) s.heap s.heap [] := va_S.rf
  have q1 := h1.1
  have q2 := h1.2
  refine lv_aload_n hx hb dX2_put_0 rfl (lv_at hl 0 rfl) ?_
  refine xg_X2 hx hb hts hown hK hP 2 rfl 1 (by decide) fk_X2_15 (v := .int (iI (f10 1))) rfl dX2_put_1 ?_
  have hir1 : IR (f10 1) := ⟨by omega, by omega⟩
  rcases (show (f10 1) = 8 ∨ (f10 1) = 16 ∨ (¬ (f10 1) = 8 ∧ ¬ (f10 1) = 16) by omega) with z1 | z1 | z1
  · refine lv_lookup (tgt := 32) (off := 28) hx hb dX2_put_4 (by decide) (by rw [iI_toInt hir1, z1]; decide) (by decide) ?_
    refine lv_aload_n hx hb dX2_put_32 rfl (lv_at hl 0 rfl) ?_
    refine xg_X2 hx hb hts hown hK hP 2 rfl 0 (by decide) fk_X2_9 (v := .ref (a 3)) rfl dX2_put_33 ?_
    refine lv_iload_n hx hb dX2_put_36 rfl (lv_at hl 1 rfl) ?_
    refine lv_lload_n hx hb dX2_put_37 rfl (lv_at hl 2 rfl) ?_
    refine xi_l2i hx hb dX2_put_38 ?_
    refine xi_i2b hx hb dX2_put_39 ?_
    have hb2 := n8_b v
    refine xi_i2l hx hb ⟨by omega, by omega⟩ dX2_put_40 ?_
    refine xl_ast hx hb hK hP hD hS 3 (f := pj 40 40 f12) rfl (i := i) (v := n8 v) ⟨by omega, by omega⟩ rfl dX2_put_41 (fun H locs hP hD hS => ?_)
    have hP := Eq.mp (congrArg (fun z9 : va_W => va_P g.1 vwCl (z9) H) (Ss_numbers_1 (g := g) (a := a) (s10 := f10) (s11 := f11) (s12 := f12) (i := i) (v := n8 v) ⟨by omega, by omega⟩)) hP
    have hD := Eq.mp (congrArg (fun z9 : va_W => va_D (va_A (wSs g a f10 f11 f12) s.heap.size) (z9)) (Ss_numbers_1 (g := g) (a := a) (s10 := f10) (s11 := f11) (s12 := f12) (i := i) (v := n8 v) ⟨by omega, by omega⟩)) hD
    have hP : va_P g.1 vwCl (wSs g a f10 f11 (up f12 (40 + i) (n8 v))) H := hP
    have hD : va_D (va_A (wSs g a f10 f11 f12) s.heap.size) (wSs g a f10 f11 (up f12 (40 + i) (n8 v))) := hD
    refine lv_goto (tgt := 65) hx hb dX2_put_42 (by decide) ?_
    have he3 : (up f12 (40 + i) (n8 v)) = (up f12 (40 + i) (nrw (f10 1) v)) := by unfold nrw; first | (rw [if_pos (by omega)]; done) | (rw [if_neg (by omega), if_pos (by omega)]; done) | (rw [if_neg (by omega), if_neg (by omega)]; done)
    have hP := Eq.mp (congrArg (fun z9 => va_P g.1 vwCl (wSs g a f10 f11 z9) H) he3) hP
    have hD := Eq.mp (congrArg (fun z9 => va_D (va_A (wSs g a f10 f11 f12) s.heap.size) (wSs g a f10 f11 z9)) he3) hD
    have hP : va_P g.1 vwCl (wSs g a f10 f11 (up f12 (40 + i) (nrw (f10 1) v))) H := hP
    have hD : va_D (va_A (wSs g a f10 f11 f12) s.heap.size) (wSs g a f10 f11 (up f12 (40 + i) (nrw (f10 1) v))) := hD
    exact W.vret hx hb hr (fun t ht hW => ⟨⟨(), rfl, trivial, by rw [ht]; exact hP, hD⟩, hS.F ht⟩) hS.2.2 dX2_put_65
  · refine lv_lookup (tgt := 45) (off := 41) hx hb dX2_put_4 (by decide) (by rw [iI_toInt hir1, z1]; decide) (by decide) ?_
    refine lv_aload_n hx hb dX2_put_45 rfl (lv_at hl 0 rfl) ?_
    refine xg_X2 hx hb hts hown hK hP 2 rfl 0 (by decide) fk_X2_9 (v := .ref (a 3)) rfl dX2_put_46 ?_
    refine lv_iload_n hx hb dX2_put_49 rfl (lv_at hl 1 rfl) ?_
    refine lv_lload_n hx hb dX2_put_50 rfl (lv_at hl 2 rfl) ?_
    refine xi_l2i hx hb dX2_put_51 ?_
    refine xi_i2s hx hb dX2_put_52 ?_
    have hb4 := n16_b v
    refine xi_i2l hx hb ⟨by omega, by omega⟩ dX2_put_53 ?_
    refine xl_ast hx hb hK hP hD hS 3 (f := pj 40 40 f12) rfl (i := i) (v := n16 v) ⟨by omega, by omega⟩ rfl dX2_put_54 (fun H locs hP hD hS => ?_)
    have hP := Eq.mp (congrArg (fun z9 : va_W => va_P g.1 vwCl (z9) H) (Ss_numbers_1 (g := g) (a := a) (s10 := f10) (s11 := f11) (s12 := f12) (i := i) (v := n16 v) ⟨by omega, by omega⟩)) hP
    have hD := Eq.mp (congrArg (fun z9 : va_W => va_D (va_A (wSs g a f10 f11 f12) s.heap.size) (z9)) (Ss_numbers_1 (g := g) (a := a) (s10 := f10) (s11 := f11) (s12 := f12) (i := i) (v := n16 v) ⟨by omega, by omega⟩)) hD
    have hP : va_P g.1 vwCl (wSs g a f10 f11 (up f12 (40 + i) (n16 v))) H := hP
    have hD : va_D (va_A (wSs g a f10 f11 f12) s.heap.size) (wSs g a f10 f11 (up f12 (40 + i) (n16 v))) := hD
    refine lv_goto (tgt := 65) hx hb dX2_put_55 (by decide) ?_
    have he5 : (up f12 (40 + i) (n16 v)) = (up f12 (40 + i) (nrw (f10 1) v)) := by unfold nrw; first | (rw [if_pos (by omega)]; done) | (rw [if_neg (by omega), if_pos (by omega)]; done) | (rw [if_neg (by omega), if_neg (by omega)]; done)
    have hP := Eq.mp (congrArg (fun z9 => va_P g.1 vwCl (wSs g a f10 f11 z9) H) he5) hP
    have hD := Eq.mp (congrArg (fun z9 => va_D (va_A (wSs g a f10 f11 f12) s.heap.size) (wSs g a f10 f11 z9)) he5) hD
    have hP : va_P g.1 vwCl (wSs g a f10 f11 (up f12 (40 + i) (nrw (f10 1) v))) H := hP
    have hD : va_D (va_A (wSs g a f10 f11 f12) s.heap.size) (wSs g a f10 f11 (up f12 (40 + i) (nrw (f10 1) v))) := hD
    exact W.vret hx hb hr (fun t ht hW => ⟨⟨(), rfl, trivial, by rw [ht]; exact hP, hD⟩, hS.F ht⟩) hS.2.2 dX2_put_65
  · refine lv_lookup (tgt := 58) (off := 54) hx hb dX2_put_4 (by decide) (by rw [iI_toInt hir1]; exact lku_no2 z1) (by decide) ?_
    refine lv_aload_n hx hb dX2_put_58 rfl (lv_at hl 0 rfl) ?_
    refine xg_X2 hx hb hts hown hK hP 2 rfl 0 (by decide) fk_X2_9 (v := .ref (a 3)) rfl dX2_put_59 ?_
    refine lv_iload_n hx hb dX2_put_62 rfl (lv_at hl 1 rfl) ?_
    refine lv_lload_n hx hb dX2_put_63 rfl (lv_at hl 2 rfl) ?_
    refine xl_ast hx hb hK hP hD hS 3 (f := pj 40 40 f12) rfl (i := i) (v := v) ⟨by omega, by omega⟩ rfl dX2_put_64 (fun H locs hP hD hS => ?_)
    have hP := Eq.mp (congrArg (fun z9 : va_W => va_P g.1 vwCl (z9) H) (Ss_numbers_1 (g := g) (a := a) (s10 := f10) (s11 := f11) (s12 := f12) (i := i) (v := v) ⟨by omega, by omega⟩)) hP
    have hD := Eq.mp (congrArg (fun z9 : va_W => va_D (va_A (wSs g a f10 f11 f12) s.heap.size) (z9)) (Ss_numbers_1 (g := g) (a := a) (s10 := f10) (s11 := f11) (s12 := f12) (i := i) (v := v) ⟨by omega, by omega⟩)) hD
    have hP : va_P g.1 vwCl (wSs g a f10 f11 (up f12 (40 + i) v)) H := hP
    have hD : va_D (va_A (wSs g a f10 f11 f12) s.heap.size) (wSs g a f10 f11 (up f12 (40 + i) v)) := hD
    have he6 : (up f12 (40 + i) v) = (up f12 (40 + i) (nrw (f10 1) v)) := by unfold nrw; first | (rw [if_pos (by omega)]; done) | (rw [if_neg (by omega), if_pos (by omega)]; done) | (rw [if_neg (by omega), if_neg (by omega)]; done)
    have hP := Eq.mp (congrArg (fun z9 => va_P g.1 vwCl (wSs g a f10 f11 z9) H) he6) hP
    have hD := Eq.mp (congrArg (fun z9 => va_D (va_A (wSs g a f10 f11 f12) s.heap.size) (wSs g a f10 f11 z9)) he6) hD
    have hP : va_P g.1 vwCl (wSs g a f10 f11 (up f12 (40 + i) (nrw (f10 1) v))) H := hP
    have hD : va_D (va_A (wSs g a f10 f11 f12) s.heap.size) (wSs g a f10 f11 (up f12 (40 + i) (nrw (f10 1) v))) := hD
    exact W.vret hx hb hr (fun t ht hW => ⟨⟨(), rfl, trivial, by rw [ht]; exact hP, hD⟩, hS.F ht⟩) hS.2.2 dX2_put_65
set_option maxRecDepth 100000 in
set_option maxHeartbeats 4000000 in
theorem c_X2_isMissing2 (l : Launch) (g : Gd) (a : Nat → Nat) (f10 : Int → Int) (f11 : Int → Int) (f12 : Int → Int) (h1 : IR (f10 2)) : Met l yX2_isMissing (wsOf yX2_isMissing cX2_isMissing 1 (some .boolean)) rm_X2_isMissing (PX g (va_P g.1 vwCl (wSs g a f10 f11 f12)) [.ref (a 4)]) (vp_Si (fun r9 => r9 = iI (bI (f10 2 = 0)))) 0 0 (fun _ => False) := by
  refine me (g := g) (by decide) rfl ?_
  intro pq eq s mq below meth cq C hnm hB ls hl
  obtain ⟨hx, hb, hr, hml, hown, hts, hlocks, hK⟩ := C
  have hown : s.vm.findClass RX2 = some mq.cls := hown
  have hl : lv_has ls 1 [(0, .ref (a 4))] := hl
  have hP : va_P g.1 vwCl (wSs g a f10 f11 f12) s.heap := hB
  have q1 := h1.1
  have q2 := h1.2
  refine lv_aload_n hx hb dX2_isMissing_0 rfl (lv_at hl 0 rfl) ?_
  refine xg_X2 hx hb hts hown hK hP 4 rfl 1 (by decide) fk_X2_15 (v := .int (iI (f10 2))) rfl dX2_isMissing_1 ?_
  refine xi_z_ne (tgt := 11) hx hb ⟨by omega, by omega⟩ dX2_isMissing_4 (by decide) (fun z1 => ?_) (fun z1 => ?_)
  · refine lv_iconst (v := iI (0)) hx hb dX2_isMissing_11 (by decide) ?_
    exact W.zret hx hb hr (by decide) (fun t ht hW => ⟨_, rfl, by rw [bI_f (by omega)], ht⟩) (fun q h => by cases h) dX2_isMissing_12
  · refine lv_iconst (v := iI (1)) hx hb dX2_isMissing_7 (by decide) ?_
    refine lv_goto (tgt := 12) hx hb dX2_isMissing_8 (by decide) ?_
    exact W.zret hx hb hr (by decide) (fun t ht hW => ⟨_, rfl, by rw [bI_t (by omega)], ht⟩) (fun q h => by cases h) dX2_isMissing_12
set_option maxRecDepth 100000 in
set_option maxHeartbeats 4000000 in
theorem c_X2_holds2 (l : Launch) (g : Gd) (a : Nat → Nat) (f10 : Int → Int) (f11 : Int → Int) (f12 : Int → Int) (x : Int) (n : Int) (h1 : 0 ≤ f11 2 ∧ f11 2 ≤ 40) (h2 : IR x) (h3 : IR n) : Met l yX2_holds (wsOf yX2_holds cX2_holds 3 (some .boolean)) rm_X2_holds (PX g (va_P g.1 vwCl (wSs g a f10 f11 f12)) [.ref (a 4), .int (iI x), .int (iI n)]) (vp_Si (fun r9 => r9 = iI (bI (0 ≤ x ∧ 0 ≤ n ∧ n ≤ f11 2 ∧ x ≤ f11 2 - n)))) 0 0 (fun _ => False) := by
  refine me (g := g) (by decide) rfl ?_
  intro pq eq s mq below meth cq C hnm hB ls hl
  obtain ⟨hx, hb, hr, hml, hown, hts, hlocks, hK⟩ := C
  have hown : s.vm.findClass RX2 = some mq.cls := hown
  have hl : lv_has ls 3 [(0, .ref (a 4)), (1, .int (iI x)), (2, .int (iI n))] := hl
  have hP : va_P g.1 vwCl (wSs g a f10 f11 f12) s.heap := hB
  have q1 := h2.1
  have q2 := h2.2
  have q3 := h3.1
  have q4 := h3.2
  refine lv_iload_n hx hb dX2_holds_0 rfl (lv_at hl 1 rfl) ?_
  refine xi_z_lt (tgt := 30) hx hb ⟨by omega, by omega⟩ dX2_holds_1 (by decide) (fun z1 => ?_) (fun z1 => ?_)
  · refine lv_iconst (v := iI (0)) hx hb dX2_holds_30 (by decide) ?_
    exact W.zret hx hb hr (by decide) (fun t ht hW => ⟨_, rfl, by rw [bI_f (by omega)], ht⟩) (fun q h => by cases h) dX2_holds_31
  · refine lv_iload_n hx hb dX2_holds_4 rfl (lv_at hl 2 rfl) ?_
    refine xi_z_lt (tgt := 30) hx hb ⟨by omega, by omega⟩ dX2_holds_5 (by decide) (fun z2 => ?_) (fun z2 => ?_)
    · refine lv_iconst (v := iI (0)) hx hb dX2_holds_30 (by decide) ?_
      exact W.zret hx hb hr (by decide) (fun t ht hW => ⟨_, rfl, by rw [bI_f (by omega)], ht⟩) (fun q h => by cases h) dX2_holds_31
    · refine lv_iload_n hx hb dX2_holds_8 rfl (lv_at hl 2 rfl) ?_
      refine lv_aload_n hx hb dX2_holds_9 rfl (lv_at hl 0 rfl) ?_
      refine xg_X2 hx hb hts hown hK hP 4 rfl 2 (by decide) fk_X2_19 (v := .int (iI (f11 2))) rfl dX2_holds_10 ?_
      refine xi_c_gt (tgt := 30) hx hb ⟨by omega, by omega⟩ ⟨by omega, by omega⟩ dX2_holds_13 (by decide) (fun z3 => ?_) (fun z3 => ?_)
      · refine lv_iconst (v := iI (0)) hx hb dX2_holds_30 (by decide) ?_
        exact W.zret hx hb hr (by decide) (fun t ht hW => ⟨_, rfl, by rw [bI_f (by omega)], ht⟩) (fun q h => by cases h) dX2_holds_31
      · refine lv_iload_n hx hb dX2_holds_16 rfl (lv_at hl 1 rfl) ?_
        refine lv_aload_n hx hb dX2_holds_17 rfl (lv_at hl 0 rfl) ?_
        refine xg_X2 hx hb hts hown hK hP 4 rfl 2 (by decide) fk_X2_19 (v := .int (iI (f11 2))) rfl dX2_holds_18 ?_
        refine lv_iload_n hx hb dX2_holds_21 rfl (lv_at hl 2 rfl) ?_
        refine xi_sub hx hb dX2_holds_22 ?_
        refine xi_c_gt (tgt := 30) hx hb ⟨by omega, by omega⟩ ⟨by omega, by omega⟩ dX2_holds_23 (by decide) (fun z4 => ?_) (fun z4 => ?_)
        · refine lv_iconst (v := iI (0)) hx hb dX2_holds_30 (by decide) ?_
          exact W.zret hx hb hr (by decide) (fun t ht hW => ⟨_, rfl, by rw [bI_f (by omega)], ht⟩) (fun q h => by cases h) dX2_holds_31
        · refine lv_iconst (v := iI (1)) hx hb dX2_holds_26 (by decide) ?_
          refine lv_goto (tgt := 31) hx hb dX2_holds_27 (by decide) ?_
          exact W.zret hx hb hr (by decide) (fun t ht hW => ⟨_, rfl, by rw [bI_t (by omega)], ht⟩) (fun q h => by cases h) dX2_holds_31
set_option maxRecDepth 100000 in
set_option maxHeartbeats 4000000 in
theorem c_X2_renew2 (l : Launch) (g : Gd) (a : Nat → Nat) (f10 : Int → Int) (f11 : Int → Int) (f12 : Int → Int) (b : Int) (n : Int) (sz : Nat) (h1 : IR b) : Met l yX2_renew (wsOf yX2_renew cX2_renew 4 none) rm_X2_renew (PX g (wP g (wSs g a f10 f11 f12) sz) [.ref (a 4), .int (iI b), .int (iI n)]) (QMv g (fun _ : Unit => wSs g a (up f10 2 b) (up f11 2 (if b = 0 then 0 else n)) (zrT f12 80 40)) (fun _ => True) (va_A (wSs g a f10 f11 f12) sz)) 0 0 (va_A (wSs g a f10 f11 f12) sz) := by
  refine me (g := g) (by decide) rfl ?_
  intro pq eq s mq below meth cq C hnm hB ls hl
  obtain ⟨hx, hb, hr, hml, hown, hts, hlocks, hK⟩ := C
  have hown : s.vm.findClass RX2 = some mq.cls := hown
  have hl : lv_has ls 4 [(0, .ref (a 4)), (1, .int (iI b)), (2, .int (iI n))] := hl
  obtain ⟨hsz, hP, hD0⟩ := hB
  subst hsz
  have hD := hD0.self (sz := s.heap.size)
  have hA : ∀ q : Nat, s.heap.size ≤ q → va_A (wSs g a f10 f11 f12) s.heap.size q := fun q h => Or.inr h
  have hS : va_S (va_A (wSs g a f10 f11 f12) s.heap.size) s.heap s.heap [] := va_S.rf
  have q1 := h1.1
  have q2 := h1.2
  refine lv_aload_n hx hb dX2_renew_0 rfl (lv_at hl 0 rfl) ?_
  refine lv_iload_n hx hb dX2_renew_1 rfl (lv_at hl 1 rfl) ?_
  refine xp_X2 hx hb hts hown hK hP hD hS 4 rfl 1 (by decide) fk_X2_15 rfl (v := .int (iI b)) rfl rfl (Nat.le_of_ble_eq_true rfl) dX2_renew_2 (fun H locs hP hD hS => ?_)
  have hP := Eq.mp (congrArg (fun z9 : va_W => va_P g.1 vwCl (z9) H) (Ss_bits_2 (g := g) (a := a) (s10 := f10) (s11 := f11) (s12 := f12) (v := b))) hP
  have hD := Eq.mp (congrArg (fun z9 : va_W => va_D (va_A (wSs g a f10 f11 f12) s.heap.size) (z9)) (Ss_bits_2 (g := g) (a := a) (s10 := f10) (s11 := f11) (s12 := f12) (v := b))) hD
  have hP : va_P g.1 vwCl (wSs g a (up f10 2 b) f11 f12) H := hP
  have hD : va_D (va_A (wSs g a f10 f11 f12) s.heap.size) (wSs g a (up f10 2 b) f11 f12) := hD
  refine lv_aload_n hx hb dX2_renew_5 rfl (lv_at hl 0 rfl) ?_
  refine lv_iload_n hx hb dX2_renew_6 rfl (lv_at hl 1 rfl) ?_
  refine xi_z_ne (tgt := 14) hx hb ⟨by omega, by omega⟩ dX2_renew_7 (by decide) (fun z1 => ?_) (fun z1 => ?_)
  · refine lv_iload_n hx hb dX2_renew_14 rfl (lv_at hl 2 rfl) ?_
    refine xp_X2 hx hb hts hown hK hP hD hS 4 rfl 2 (by decide) fk_X2_19 rfl (v := .int (iI n)) rfl rfl (Nat.le_of_ble_eq_true rfl) dX2_renew_15 (fun H locs hP hD hS => ?_)
    have hP := Eq.mp (congrArg (fun z9 : va_W => va_P g.1 vwCl (z9) H) (Ss_size_2 (g := g) (a := a) (s10 := up f10 2 b) (s11 := f11) (s12 := f12) (v := n))) hP
    have hD := Eq.mp (congrArg (fun z9 : va_W => va_D (va_A (wSs g a f10 f11 f12) s.heap.size) (z9)) (Ss_size_2 (g := g) (a := a) (s10 := up f10 2 b) (s11 := f11) (s12 := f12) (v := n))) hD
    have hP : va_P g.1 vwCl (wSs g a (up f10 2 b) (up f11 2 n) f12) H := hP
    have hD : va_D (va_A (wSs g a f10 f11 f12) s.heap.size) (wSs g a (up f10 2 b) (up f11 2 n) f12) := hD
    refine lv_iconst (v := iI (0)) hx hb dX2_renew_18 (by decide) ?_
    refine lv_istore_n (lv' := [(3, .int (iI 0)), (0, .ref (a 4)), (1, .int (iI b)), (2, .int (iI n))]) hx hb dX2_renew_19 rfl hl (by decide) rfl (fun ls hl => ?_)
    have lp20 : ∀ (n20 : Nat) (i : Int), (0 ≤ i ∧ i ≤ 40) → (40 - i).toNat < n20 → ∀ ls : Array Slot, lv_has ls 4 [(3, .int (iI i)), (0, .ref (a 4)), (1, .int (iI b)), (2, .int (iI n))] → ∀ (H : Heap) (locs : List Loc), va_P g.1 vwCl (wSs g a (up f10 2 b) (up f11 2 n) (zrT f12 80 i)) H → va_D (va_A (wSs g a f10 f11 f12) s.heap.size) (wSs g a (up f10 2 b) (up f11 2 n) (zrT f12 80 i)) → va_S (va_A (wSs g a f10 f11 f12) s.heap.size) s.heap H locs → W pq l eq rm_X2_renew s mq [.ref (a 4), .int (iI b), .int (iI n)].toArray below meth cq H locs 0 0 (MQ below (QMv g (fun _ : Unit => wSs g a (up f10 2 b) (up f11 2 (if b = 0 then 0 else n)) (zrT f12 80 40)) (fun _ => True) (va_A (wSs g a f10 f11 f12) s.heap.size)) [.ref (a 4), .int (iI b), .int (iI n)].toArray s 0 0 (va_A (wSs g a f10 f11 f12) s.heap.size)) (F0 mq 20 ls []) := by
      intro n20
      induction n20 with
      | zero => intro i i20_1 hm; exact absurd hm (Nat.not_lt_zero _)
      | succ n20 ih20 =>
        intro i i20_1 hm20 ls hl H locs hP hD hS
        refine lv_iload_n hx hb dX2_renew_20 rfl (lv_at hl 0 rfl) ?_
        refine lv_bipush (v := iI (40)) hx hb dX2_renew_21 (by decide) ?_
        refine xi_c_ge (tgt := 39) hx hb ⟨by omega, by omega⟩ ⟨by decide, by decide⟩ dX2_renew_23 (by decide) (fun z2 => ?_) (fun z2 => ?_)
        · have he3 : (up f11 2 n) = (up f11 2 (if b = 0 then 0 else n)) := by first | (rw [if_pos (by omega)]; done) | (rw [if_neg (by omega)]; done)
          have hP := Eq.mp (congrArg (fun z9 => va_P g.1 vwCl (wSs g a (up f10 2 b) z9 (zrT f12 80 i)) H) he3) hP
          have hD := Eq.mp (congrArg (fun z9 => va_D (va_A (wSs g a f10 f11 f12) s.heap.size) (wSs g a (up f10 2 b) z9 (zrT f12 80 i))) he3) hD
          have he4 : (zrT f12 80 i) = (zrT f12 80 40) := by rw [show i = 40 by omega]
          have hP := Eq.mp (congrArg (fun z9 => va_P g.1 vwCl (wSs g a (up f10 2 b) (up f11 2 (if b = 0 then 0 else n)) z9) H) he4) hP
          have hD := Eq.mp (congrArg (fun z9 => va_D (va_A (wSs g a f10 f11 f12) s.heap.size) (wSs g a (up f10 2 b) (up f11 2 (if b = 0 then 0 else n)) z9)) he4) hD
          have hP : va_P g.1 vwCl (wSs g a (up f10 2 b) (up f11 2 (if b = 0 then 0 else n)) (zrT f12 80 40)) H := hP
          have hD : va_D (va_A (wSs g a f10 f11 f12) s.heap.size) (wSs g a (up f10 2 b) (up f11 2 (if b = 0 then 0 else n)) (zrT f12 80 40)) := hD
          exact W.vret hx hb hr (fun t ht hW => ⟨⟨(), rfl, trivial, by rw [ht]; exact hP, hD⟩, hS.F ht⟩) hS.2.2 dX2_renew_39
        · refine lv_aload_n hx hb dX2_renew_26 rfl (lv_at hl 1 rfl) ?_
          refine xg_X2 hx hb hts hown hK hP 4 rfl 0 (by decide) fk_X2_9 (v := .ref (a 5)) rfl dX2_renew_27 ?_
          refine lv_iload_n hx hb dX2_renew_30 rfl (lv_at hl 0 rfl) ?_
          refine lv_lconst (v := lI (0)) hx hb dX2_renew_31 (by decide) ?_
          refine xl_ast hx hb hK hP hD hS 5 (f := pj 80 40 (zrT f12 80 i)) rfl (i := i) (v := 0) ⟨by omega, by omega⟩ rfl dX2_renew_32 (fun H locs hP hD hS => ?_)
          have hP := Eq.mp (congrArg (fun z9 : va_W => va_P g.1 vwCl (z9) H) (Ss_numbers_2 (g := g) (a := a) (s10 := up f10 2 b) (s11 := up f11 2 n) (s12 := zrT f12 80 i) (i := i) (v := 0) ⟨by omega, by omega⟩)) hP
          have hD := Eq.mp (congrArg (fun z9 : va_W => va_D (va_A (wSs g a f10 f11 f12) s.heap.size) (z9)) (Ss_numbers_2 (g := g) (a := a) (s10 := up f10 2 b) (s11 := up f11 2 n) (s12 := zrT f12 80 i) (i := i) (v := 0) ⟨by omega, by omega⟩)) hD
          have hP : va_P g.1 vwCl (wSs g a (up f10 2 b) (up f11 2 n) (up (zrT f12 80 i) (80 + i) 0)) H := hP
          have hD : va_D (va_A (wSs g a f10 f11 f12) s.heap.size) (wSs g a (up f10 2 b) (up f11 2 n) (up (zrT f12 80 i) (80 + i) 0)) := hD
          refine xi_inc (lv' := [(3, .int (iI (i + 1))), (0, .ref (a 4)), (1, .int (iI b)), (2, .int (iI n))]) hx hb dX2_renew_33 hl (k := 0) rfl (by decide) rfl (fun ls hl => ?_)
          refine lv_goto (tgt := 20) hx hb dX2_renew_36 (by decide) ?_
          have hq5 : (up (zrT f12 80 i) (80 + i) 0) = (zrT f12 80 (i + 1)) := zrT_S f12 80 i20_1.1
          have hP := Eq.mp (congrArg (fun z9 => va_P g.1 vwCl (wSs g a (up f10 2 b) (up f11 2 n) z9) H) hq5) hP
          have hD := Eq.mp (congrArg (fun z9 => va_D (va_A (wSs g a f10 f11 f12) s.heap.size) (wSs g a (up f10 2 b) (up f11 2 n) z9)) hq5) hD
          exact ih20 (i + 1) (by omega) (by omega) ls (lv_sub hl [0, 1, 2, 3] rfl) H locs hP hD hS
    have hq6 : f12 = (zrT f12 80 0) := zrT_0 f12 80
    have hP := Eq.mp (congrArg (fun z9 => va_P g.1 vwCl (wSs g a (up f10 2 b) (up f11 2 n) z9) H) hq6) hP
    have hD := Eq.mp (congrArg (fun z9 => va_D (va_A (wSs g a f10 f11 f12) s.heap.size) (wSs g a (up f10 2 b) (up f11 2 n) z9)) hq6) hD
    exact lp20 (40 + 1) 0 (by omega) (by omega) ls (lv_sub hl [0, 1, 2, 3] rfl) H locs hP hD hS
  · refine lv_iconst (v := iI (0)) hx hb dX2_renew_10 (by decide) ?_
    refine lv_goto (tgt := 15) hx hb dX2_renew_11 (by decide) ?_
    refine xp_X2 hx hb hts hown hK hP hD hS 4 rfl 2 (by decide) fk_X2_19 rfl (v := .int (iI 0)) rfl rfl (Nat.le_of_ble_eq_true rfl) dX2_renew_15 (fun H locs hP hD hS => ?_)
    have hP := Eq.mp (congrArg (fun z9 : va_W => va_P g.1 vwCl (z9) H) (Ss_size_2 (g := g) (a := a) (s10 := up f10 2 b) (s11 := f11) (s12 := f12) (v := 0))) hP
    have hD := Eq.mp (congrArg (fun z9 : va_W => va_D (va_A (wSs g a f10 f11 f12) s.heap.size) (z9)) (Ss_size_2 (g := g) (a := a) (s10 := up f10 2 b) (s11 := f11) (s12 := f12) (v := 0))) hD
    have hP : va_P g.1 vwCl (wSs g a (up f10 2 b) (up f11 2 0) f12) H := hP
    have hD : va_D (va_A (wSs g a f10 f11 f12) s.heap.size) (wSs g a (up f10 2 b) (up f11 2 0) f12) := hD
    refine lv_iconst (v := iI (0)) hx hb dX2_renew_18 (by decide) ?_
    refine lv_istore_n (lv' := [(3, .int (iI 0)), (0, .ref (a 4)), (1, .int (iI b)), (2, .int (iI n))]) hx hb dX2_renew_19 rfl hl (by decide) rfl (fun ls hl => ?_)
    have lp20 : ∀ (n20 : Nat) (i : Int), (0 ≤ i ∧ i ≤ 40) → (40 - i).toNat < n20 → ∀ ls : Array Slot, lv_has ls 4 [(3, .int (iI i)), (0, .ref (a 4)), (1, .int (iI b)), (2, .int (iI n))] → ∀ (H : Heap) (locs : List Loc), va_P g.1 vwCl (wSs g a (up f10 2 b) (up f11 2 0) (zrT f12 80 i)) H → va_D (va_A (wSs g a f10 f11 f12) s.heap.size) (wSs g a (up f10 2 b) (up f11 2 0) (zrT f12 80 i)) → va_S (va_A (wSs g a f10 f11 f12) s.heap.size) s.heap H locs → W pq l eq rm_X2_renew s mq [.ref (a 4), .int (iI b), .int (iI n)].toArray below meth cq H locs 0 0 (MQ below (QMv g (fun _ : Unit => wSs g a (up f10 2 b) (up f11 2 (if b = 0 then 0 else n)) (zrT f12 80 40)) (fun _ => True) (va_A (wSs g a f10 f11 f12) s.heap.size)) [.ref (a 4), .int (iI b), .int (iI n)].toArray s 0 0 (va_A (wSs g a f10 f11 f12) s.heap.size)) (F0 mq 20 ls []) := by
      intro n20
      induction n20 with
      | zero => intro i i20_1 hm; exact absurd hm (Nat.not_lt_zero _)
      | succ n20 ih20 =>
        intro i i20_1 hm20 ls hl H locs hP hD hS
        refine lv_iload_n hx hb dX2_renew_20 rfl (lv_at hl 0 rfl) ?_
        refine lv_bipush (v := iI (40)) hx hb dX2_renew_21 (by decide) ?_
        refine xi_c_ge (tgt := 39) hx hb ⟨by omega, by omega⟩ ⟨by decide, by decide⟩ dX2_renew_23 (by decide) (fun z7 => ?_) (fun z7 => ?_)
        · have he8 : (up f11 2 0) = (up f11 2 (if b = 0 then 0 else n)) := by first | (rw [if_pos (by omega)]; done) | (rw [if_neg (by omega)]; done)
          have hP := Eq.mp (congrArg (fun z9 => va_P g.1 vwCl (wSs g a (up f10 2 b) z9 (zrT f12 80 i)) H) he8) hP
          have hD := Eq.mp (congrArg (fun z9 => va_D (va_A (wSs g a f10 f11 f12) s.heap.size) (wSs g a (up f10 2 b) z9 (zrT f12 80 i))) he8) hD
          have he9 : (zrT f12 80 i) = (zrT f12 80 40) := by rw [show i = 40 by omega]
          have hP := Eq.mp (congrArg (fun z9 => va_P g.1 vwCl (wSs g a (up f10 2 b) (up f11 2 (if b = 0 then 0 else n)) z9) H) he9) hP
          have hD := Eq.mp (congrArg (fun z9 => va_D (va_A (wSs g a f10 f11 f12) s.heap.size) (wSs g a (up f10 2 b) (up f11 2 (if b = 0 then 0 else n)) z9)) he9) hD
          have hP : va_P g.1 vwCl (wSs g a (up f10 2 b) (up f11 2 (if b = 0 then 0 else n)) (zrT f12 80 40)) H := hP
          have hD : va_D (va_A (wSs g a f10 f11 f12) s.heap.size) (wSs g a (up f10 2 b) (up f11 2 (if b = 0 then 0 else n)) (zrT f12 80 40)) := hD
          exact W.vret hx hb hr (fun t ht hW => ⟨⟨(), rfl, trivial, by rw [ht]; exact hP, hD⟩, hS.F ht⟩) hS.2.2 dX2_renew_39
        · refine lv_aload_n hx hb dX2_renew_26 rfl (lv_at hl 1 rfl) ?_
          refine xg_X2 hx hb hts hown hK hP 4 rfl 0 (by decide) fk_X2_9 (v := .ref (a 5)) rfl dX2_renew_27 ?_
          refine lv_iload_n hx hb dX2_renew_30 rfl (lv_at hl 0 rfl) ?_
          refine lv_lconst (v := lI (0)) hx hb dX2_renew_31 (by decide) ?_
          refine xl_ast hx hb hK hP hD hS 5 (f := pj 80 40 (zrT f12 80 i)) rfl (i := i) (v := 0) ⟨by omega, by omega⟩ rfl dX2_renew_32 (fun H locs hP hD hS => ?_)
          have hP := Eq.mp (congrArg (fun z9 : va_W => va_P g.1 vwCl (z9) H) (Ss_numbers_2 (g := g) (a := a) (s10 := up f10 2 b) (s11 := up f11 2 0) (s12 := zrT f12 80 i) (i := i) (v := 0) ⟨by omega, by omega⟩)) hP
          have hD := Eq.mp (congrArg (fun z9 : va_W => va_D (va_A (wSs g a f10 f11 f12) s.heap.size) (z9)) (Ss_numbers_2 (g := g) (a := a) (s10 := up f10 2 b) (s11 := up f11 2 0) (s12 := zrT f12 80 i) (i := i) (v := 0) ⟨by omega, by omega⟩)) hD
          have hP : va_P g.1 vwCl (wSs g a (up f10 2 b) (up f11 2 0) (up (zrT f12 80 i) (80 + i) 0)) H := hP
          have hD : va_D (va_A (wSs g a f10 f11 f12) s.heap.size) (wSs g a (up f10 2 b) (up f11 2 0) (up (zrT f12 80 i) (80 + i) 0)) := hD
          refine xi_inc (lv' := [(3, .int (iI (i + 1))), (0, .ref (a 4)), (1, .int (iI b)), (2, .int (iI n))]) hx hb dX2_renew_33 hl (k := 0) rfl (by decide) rfl (fun ls hl => ?_)
          refine lv_goto (tgt := 20) hx hb dX2_renew_36 (by decide) ?_
          have hq10 : (up (zrT f12 80 i) (80 + i) 0) = (zrT f12 80 (i + 1)) := zrT_S f12 80 i20_1.1
          have hP := Eq.mp (congrArg (fun z9 => va_P g.1 vwCl (wSs g a (up f10 2 b) (up f11 2 0) z9) H) hq10) hP
          have hD := Eq.mp (congrArg (fun z9 => va_D (va_A (wSs g a f10 f11 f12) s.heap.size) (wSs g a (up f10 2 b) (up f11 2 0) z9)) hq10) hD
          exact ih20 (i + 1) (by omega) (by omega) ls (lv_sub hl [0, 1, 2, 3] rfl) H locs hP hD hS
    have hq11 : f12 = (zrT f12 80 0) := zrT_0 f12 80
    have hP := Eq.mp (congrArg (fun z9 => va_P g.1 vwCl (wSs g a (up f10 2 b) (up f11 2 0) z9) H) hq11) hP
    have hD := Eq.mp (congrArg (fun z9 => va_D (va_A (wSs g a f10 f11 f12) s.heap.size) (wSs g a (up f10 2 b) (up f11 2 0) z9)) hq11) hD
    exact lp20 (40 + 1) 0 (by omega) (by omega) ls (lv_sub hl [0, 1, 2, 3] rfl) H locs hP hD hS
set_option maxRecDepth 100000 in
set_option maxHeartbeats 4000000 in
theorem c_X2_put2 (l : Launch) (g : Gd) (a : Nat → Nat) (f10 : Int → Int) (f11 : Int → Int) (f12 : Int → Int) (i : Int) (v : Int) (sz : Nat) (h1 : IR (f10 2)) (h2 : 0 ≤ i ∧ i < 40) : Met l yX2_put (wsOf yX2_put cX2_put 4 none) rm_X2_put (PX g (wP g (wSs g a f10 f11 f12) sz) [.ref (a 4), .int (iI i), .long (lI v)]) (QMv g (fun _ : Unit => wSs g a f10 f11 (up f12 (80 + i) (nrw (f10 2) v))) (fun _ => True) (va_A (wSs g a f10 f11 f12) sz)) 0 0 (va_A (wSs g a f10 f11 f12) sz) := by
  refine me (g := g) (by decide) rfl ?_
  intro pq eq s mq below meth cq C hnm hB ls hl
  obtain ⟨hx, hb, hr, hml, hown, hts, hlocks, hK⟩ := C
  have hown : s.vm.findClass RX2 = some mq.cls := hown
  have hl : lv_has ls 4 [(0, .ref (a 4)), (1, .int (iI i)), (2, .long (lI v))] := hl
  obtain ⟨hsz, hP, hD0⟩ := hB
  subst hsz
  have hD := hD0.self (sz := s.heap.size)
  have hA : ∀ q : Nat, s.heap.size ≤ q → va_A (wSs g a f10 f11 f12) s.heap.size q := fun q h => Or.inr h
  have hS : va_S (va_A (wSs g a f10 f11 f12) s.heap.size) s.heap s.heap [] := va_S.rf
  have q1 := h1.1
  have q2 := h1.2
  refine lv_aload_n hx hb dX2_put_0 rfl (lv_at hl 0 rfl) ?_
  refine xg_X2 hx hb hts hown hK hP 4 rfl 1 (by decide) fk_X2_15 (v := .int (iI (f10 2))) rfl dX2_put_1 ?_
  have hir1 : IR (f10 2) := ⟨by omega, by omega⟩
  rcases (show (f10 2) = 8 ∨ (f10 2) = 16 ∨ (¬ (f10 2) = 8 ∧ ¬ (f10 2) = 16) by omega) with z1 | z1 | z1
  · refine lv_lookup (tgt := 32) (off := 28) hx hb dX2_put_4 (by decide) (by rw [iI_toInt hir1, z1]; decide) (by decide) ?_
    refine lv_aload_n hx hb dX2_put_32 rfl (lv_at hl 0 rfl) ?_
    refine xg_X2 hx hb hts hown hK hP 4 rfl 0 (by decide) fk_X2_9 (v := .ref (a 5)) rfl dX2_put_33 ?_
    refine lv_iload_n hx hb dX2_put_36 rfl (lv_at hl 1 rfl) ?_
    refine lv_lload_n hx hb dX2_put_37 rfl (lv_at hl 2 rfl) ?_
    refine xi_l2i hx hb dX2_put_38 ?_
    refine xi_i2b hx hb dX2_put_39 ?_
    have hb2 := n8_b v
    refine xi_i2l hx hb ⟨by omega, by omega⟩ dX2_put_40 ?_
    refine xl_ast hx hb hK hP hD hS 5 (f := pj 80 40 f12) rfl (i := i) (v := n8 v) ⟨by omega, by omega⟩ rfl dX2_put_41 (fun H locs hP hD hS => ?_)
    have hP := Eq.mp (congrArg (fun z9 : va_W => va_P g.1 vwCl (z9) H) (Ss_numbers_2 (g := g) (a := a) (s10 := f10) (s11 := f11) (s12 := f12) (i := i) (v := n8 v) ⟨by omega, by omega⟩)) hP
    have hD := Eq.mp (congrArg (fun z9 : va_W => va_D (va_A (wSs g a f10 f11 f12) s.heap.size) (z9)) (Ss_numbers_2 (g := g) (a := a) (s10 := f10) (s11 := f11) (s12 := f12) (i := i) (v := n8 v) ⟨by omega, by omega⟩)) hD
    have hP : va_P g.1 vwCl (wSs g a f10 f11 (up f12 (80 + i) (n8 v))) H := hP
    have hD : va_D (va_A (wSs g a f10 f11 f12) s.heap.size) (wSs g a f10 f11 (up f12 (80 + i) (n8 v))) := hD
    refine lv_goto (tgt := 65) hx hb dX2_put_42 (by decide) ?_
    have he3 : (up f12 (80 + i) (n8 v)) = (up f12 (80 + i) (nrw (f10 2) v)) := by unfold nrw; first | (rw [if_pos (by omega)]; done) | (rw [if_neg (by omega), if_pos (by omega)]; done) | (rw [if_neg (by omega), if_neg (by omega)]; done)
    have hP := Eq.mp (congrArg (fun z9 => va_P g.1 vwCl (wSs g a f10 f11 z9) H) he3) hP
    have hD := Eq.mp (congrArg (fun z9 => va_D (va_A (wSs g a f10 f11 f12) s.heap.size) (wSs g a f10 f11 z9)) he3) hD
    have hP : va_P g.1 vwCl (wSs g a f10 f11 (up f12 (80 + i) (nrw (f10 2) v))) H := hP
    have hD : va_D (va_A (wSs g a f10 f11 f12) s.heap.size) (wSs g a f10 f11 (up f12 (80 + i) (nrw (f10 2) v))) := hD
    exact W.vret hx hb hr (fun t ht hW => ⟨⟨(), rfl, trivial, by rw [ht]; exact hP, hD⟩, hS.F ht⟩) hS.2.2 dX2_put_65
  · refine lv_lookup (tgt := 45) (off := 41) hx hb dX2_put_4 (by decide) (by rw [iI_toInt hir1, z1]; decide) (by decide) ?_
    refine lv_aload_n hx hb dX2_put_45 rfl (lv_at hl 0 rfl) ?_
    refine xg_X2 hx hb hts hown hK hP 4 rfl 0 (by decide) fk_X2_9 (v := .ref (a 5)) rfl dX2_put_46 ?_
    refine lv_iload_n hx hb dX2_put_49 rfl (lv_at hl 1 rfl) ?_
    refine lv_lload_n hx hb dX2_put_50 rfl (lv_at hl 2 rfl) ?_
    refine xi_l2i hx hb dX2_put_51 ?_
    refine xi_i2s hx hb dX2_put_52 ?_
    have hb4 := n16_b v
    refine xi_i2l hx hb ⟨by omega, by omega⟩ dX2_put_53 ?_
    refine xl_ast hx hb hK hP hD hS 5 (f := pj 80 40 f12) rfl (i := i) (v := n16 v) ⟨by omega, by omega⟩ rfl dX2_put_54 (fun H locs hP hD hS => ?_)
    have hP := Eq.mp (congrArg (fun z9 : va_W => va_P g.1 vwCl (z9) H) (Ss_numbers_2 (g := g) (a := a) (s10 := f10) (s11 := f11) (s12 := f12) (i := i) (v := n16 v) ⟨by omega, by omega⟩)) hP
    have hD := Eq.mp (congrArg (fun z9 : va_W => va_D (va_A (wSs g a f10 f11 f12) s.heap.size) (z9)) (Ss_numbers_2 (g := g) (a := a) (s10 := f10) (s11 := f11) (s12 := f12) (i := i) (v := n16 v) ⟨by omega, by omega⟩)) hD
    have hP : va_P g.1 vwCl (wSs g a f10 f11 (up f12 (80 + i) (n16 v))) H := hP
    have hD : va_D (va_A (wSs g a f10 f11 f12) s.heap.size) (wSs g a f10 f11 (up f12 (80 + i) (n16 v))) := hD
    refine lv_goto (tgt := 65) hx hb dX2_put_55 (by decide) ?_
    have he5 : (up f12 (80 + i) (n16 v)) = (up f12 (80 + i) (nrw (f10 2) v)) := by unfold nrw; first | (rw [if_pos (by omega)]; done) | (rw [if_neg (by omega), if_pos (by omega)]; done) | (rw [if_neg (by omega), if_neg (by omega)]; done)
    have hP := Eq.mp (congrArg (fun z9 => va_P g.1 vwCl (wSs g a f10 f11 z9) H) he5) hP
    have hD := Eq.mp (congrArg (fun z9 => va_D (va_A (wSs g a f10 f11 f12) s.heap.size) (wSs g a f10 f11 z9)) he5) hD
    have hP : va_P g.1 vwCl (wSs g a f10 f11 (up f12 (80 + i) (nrw (f10 2) v))) H := hP
    have hD : va_D (va_A (wSs g a f10 f11 f12) s.heap.size) (wSs g a f10 f11 (up f12 (80 + i) (nrw (f10 2) v))) := hD
    exact W.vret hx hb hr (fun t ht hW => ⟨⟨(), rfl, trivial, by rw [ht]; exact hP, hD⟩, hS.F ht⟩) hS.2.2 dX2_put_65
  · refine lv_lookup (tgt := 58) (off := 54) hx hb dX2_put_4 (by decide) (by rw [iI_toInt hir1]; exact lku_no2 z1) (by decide) ?_
    refine lv_aload_n hx hb dX2_put_58 rfl (lv_at hl 0 rfl) ?_
    refine xg_X2 hx hb hts hown hK hP 4 rfl 0 (by decide) fk_X2_9 (v := .ref (a 5)) rfl dX2_put_59 ?_
    refine lv_iload_n hx hb dX2_put_62 rfl (lv_at hl 1 rfl) ?_
    refine lv_lload_n hx hb dX2_put_63 rfl (lv_at hl 2 rfl) ?_
    refine xl_ast hx hb hK hP hD hS 5 (f := pj 80 40 f12) rfl (i := i) (v := v) ⟨by omega, by omega⟩ rfl dX2_put_64 (fun H locs hP hD hS => ?_)
    have hP := Eq.mp (congrArg (fun z9 : va_W => va_P g.1 vwCl (z9) H) (Ss_numbers_2 (g := g) (a := a) (s10 := f10) (s11 := f11) (s12 := f12) (i := i) (v := v) ⟨by omega, by omega⟩)) hP
    have hD := Eq.mp (congrArg (fun z9 : va_W => va_D (va_A (wSs g a f10 f11 f12) s.heap.size) (z9)) (Ss_numbers_2 (g := g) (a := a) (s10 := f10) (s11 := f11) (s12 := f12) (i := i) (v := v) ⟨by omega, by omega⟩)) hD
    have hP : va_P g.1 vwCl (wSs g a f10 f11 (up f12 (80 + i) v)) H := hP
    have hD : va_D (va_A (wSs g a f10 f11 f12) s.heap.size) (wSs g a f10 f11 (up f12 (80 + i) v)) := hD
    have he6 : (up f12 (80 + i) v) = (up f12 (80 + i) (nrw (f10 2) v)) := by unfold nrw; first | (rw [if_pos (by omega)]; done) | (rw [if_neg (by omega), if_pos (by omega)]; done) | (rw [if_neg (by omega), if_neg (by omega)]; done)
    have hP := Eq.mp (congrArg (fun z9 => va_P g.1 vwCl (wSs g a f10 f11 z9) H) he6) hP
    have hD := Eq.mp (congrArg (fun z9 => va_D (va_A (wSs g a f10 f11 f12) s.heap.size) (wSs g a f10 f11 z9)) he6) hD
    have hP : va_P g.1 vwCl (wSs g a f10 f11 (up f12 (80 + i) (nrw (f10 2) v))) H := hP
    have hD : va_D (va_A (wSs g a f10 f11 f12) s.heap.size) (wSs g a f10 f11 (up f12 (80 + i) (nrw (f10 2) v))) := hD
    exact W.vret hx hb hr (fun t ht hW => ⟨⟨(), rfl, trivial, by rw [ht]; exact hP, hD⟩, hS.F ht⟩) hS.2.2 dX2_put_65
set_option maxRecDepth 100000 in
set_option maxHeartbeats 4000000 in
theorem c_X2_isMissing3 (l : Launch) (g : Gd) (a : Nat → Nat) (f10 : Int → Int) (f11 : Int → Int) (f12 : Int → Int) (h1 : IR (f10 3)) : Met l yX2_isMissing (wsOf yX2_isMissing cX2_isMissing 1 (some .boolean)) rm_X2_isMissing (PX g (va_P g.1 vwCl (wSs g a f10 f11 f12)) [.ref (a 6)]) (vp_Si (fun r9 => r9 = iI (bI (f10 3 = 0)))) 0 0 (fun _ => False) := by
  refine me (g := g) (by decide) rfl ?_
  intro pq eq s mq below meth cq C hnm hB ls hl
  obtain ⟨hx, hb, hr, hml, hown, hts, hlocks, hK⟩ := C
  have hown : s.vm.findClass RX2 = some mq.cls := hown
  have hl : lv_has ls 1 [(0, .ref (a 6))] := hl
  have hP : va_P g.1 vwCl (wSs g a f10 f11 f12) s.heap := hB
  have q1 := h1.1
  have q2 := h1.2
  refine lv_aload_n hx hb dX2_isMissing_0 rfl (lv_at hl 0 rfl) ?_
  refine xg_X2 hx hb hts hown hK hP 6 rfl 1 (by decide) fk_X2_15 (v := .int (iI (f10 3))) rfl dX2_isMissing_1 ?_
  refine xi_z_ne (tgt := 11) hx hb ⟨by omega, by omega⟩ dX2_isMissing_4 (by decide) (fun z1 => ?_) (fun z1 => ?_)
  · refine lv_iconst (v := iI (0)) hx hb dX2_isMissing_11 (by decide) ?_
    exact W.zret hx hb hr (by decide) (fun t ht hW => ⟨_, rfl, by rw [bI_f (by omega)], ht⟩) (fun q h => by cases h) dX2_isMissing_12
  · refine lv_iconst (v := iI (1)) hx hb dX2_isMissing_7 (by decide) ?_
    refine lv_goto (tgt := 12) hx hb dX2_isMissing_8 (by decide) ?_
    exact W.zret hx hb hr (by decide) (fun t ht hW => ⟨_, rfl, by rw [bI_t (by omega)], ht⟩) (fun q h => by cases h) dX2_isMissing_12
set_option maxRecDepth 100000 in
set_option maxHeartbeats 4000000 in
theorem c_X2_holds3 (l : Launch) (g : Gd) (a : Nat → Nat) (f10 : Int → Int) (f11 : Int → Int) (f12 : Int → Int) (x : Int) (n : Int) (h1 : 0 ≤ f11 3 ∧ f11 3 ≤ 40) (h2 : IR x) (h3 : IR n) : Met l yX2_holds (wsOf yX2_holds cX2_holds 3 (some .boolean)) rm_X2_holds (PX g (va_P g.1 vwCl (wSs g a f10 f11 f12)) [.ref (a 6), .int (iI x), .int (iI n)]) (vp_Si (fun r9 => r9 = iI (bI (0 ≤ x ∧ 0 ≤ n ∧ n ≤ f11 3 ∧ x ≤ f11 3 - n)))) 0 0 (fun _ => False) := by
  refine me (g := g) (by decide) rfl ?_
  intro pq eq s mq below meth cq C hnm hB ls hl
  obtain ⟨hx, hb, hr, hml, hown, hts, hlocks, hK⟩ := C
  have hown : s.vm.findClass RX2 = some mq.cls := hown
  have hl : lv_has ls 3 [(0, .ref (a 6)), (1, .int (iI x)), (2, .int (iI n))] := hl
  have hP : va_P g.1 vwCl (wSs g a f10 f11 f12) s.heap := hB
  have q1 := h2.1
  have q2 := h2.2
  have q3 := h3.1
  have q4 := h3.2
  refine lv_iload_n hx hb dX2_holds_0 rfl (lv_at hl 1 rfl) ?_
  refine xi_z_lt (tgt := 30) hx hb ⟨by omega, by omega⟩ dX2_holds_1 (by decide) (fun z1 => ?_) (fun z1 => ?_)
  · refine lv_iconst (v := iI (0)) hx hb dX2_holds_30 (by decide) ?_
    exact W.zret hx hb hr (by decide) (fun t ht hW => ⟨_, rfl, by rw [bI_f (by omega)], ht⟩) (fun q h => by cases h) dX2_holds_31
  · refine lv_iload_n hx hb dX2_holds_4 rfl (lv_at hl 2 rfl) ?_
    refine xi_z_lt (tgt := 30) hx hb ⟨by omega, by omega⟩ dX2_holds_5 (by decide) (fun z2 => ?_) (fun z2 => ?_)
    · refine lv_iconst (v := iI (0)) hx hb dX2_holds_30 (by decide) ?_
      exact W.zret hx hb hr (by decide) (fun t ht hW => ⟨_, rfl, by rw [bI_f (by omega)], ht⟩) (fun q h => by cases h) dX2_holds_31
    · refine lv_iload_n hx hb dX2_holds_8 rfl (lv_at hl 2 rfl) ?_
      refine lv_aload_n hx hb dX2_holds_9 rfl (lv_at hl 0 rfl) ?_
      refine xg_X2 hx hb hts hown hK hP 6 rfl 2 (by decide) fk_X2_19 (v := .int (iI (f11 3))) rfl dX2_holds_10 ?_
      refine xi_c_gt (tgt := 30) hx hb ⟨by omega, by omega⟩ ⟨by omega, by omega⟩ dX2_holds_13 (by decide) (fun z3 => ?_) (fun z3 => ?_)
      · refine lv_iconst (v := iI (0)) hx hb dX2_holds_30 (by decide) ?_
        exact W.zret hx hb hr (by decide) (fun t ht hW => ⟨_, rfl, by rw [bI_f (by omega)], ht⟩) (fun q h => by cases h) dX2_holds_31
      · refine lv_iload_n hx hb dX2_holds_16 rfl (lv_at hl 1 rfl) ?_
        refine lv_aload_n hx hb dX2_holds_17 rfl (lv_at hl 0 rfl) ?_
        refine xg_X2 hx hb hts hown hK hP 6 rfl 2 (by decide) fk_X2_19 (v := .int (iI (f11 3))) rfl dX2_holds_18 ?_
        refine lv_iload_n hx hb dX2_holds_21 rfl (lv_at hl 2 rfl) ?_
        refine xi_sub hx hb dX2_holds_22 ?_
        refine xi_c_gt (tgt := 30) hx hb ⟨by omega, by omega⟩ ⟨by omega, by omega⟩ dX2_holds_23 (by decide) (fun z4 => ?_) (fun z4 => ?_)
        · refine lv_iconst (v := iI (0)) hx hb dX2_holds_30 (by decide) ?_
          exact W.zret hx hb hr (by decide) (fun t ht hW => ⟨_, rfl, by rw [bI_f (by omega)], ht⟩) (fun q h => by cases h) dX2_holds_31
        · refine lv_iconst (v := iI (1)) hx hb dX2_holds_26 (by decide) ?_
          refine lv_goto (tgt := 31) hx hb dX2_holds_27 (by decide) ?_
          exact W.zret hx hb hr (by decide) (fun t ht hW => ⟨_, rfl, by rw [bI_t (by omega)], ht⟩) (fun q h => by cases h) dX2_holds_31
set_option maxRecDepth 100000 in
set_option maxHeartbeats 4000000 in
theorem c_X2_renew3 (l : Launch) (g : Gd) (a : Nat → Nat) (f10 : Int → Int) (f11 : Int → Int) (f12 : Int → Int) (b : Int) (n : Int) (sz : Nat) (h1 : IR b) : Met l yX2_renew (wsOf yX2_renew cX2_renew 4 none) rm_X2_renew (PX g (wP g (wSs g a f10 f11 f12) sz) [.ref (a 6), .int (iI b), .int (iI n)]) (QMv g (fun _ : Unit => wSs g a (up f10 3 b) (up f11 3 (if b = 0 then 0 else n)) (zrT f12 120 40)) (fun _ => True) (va_A (wSs g a f10 f11 f12) sz)) 0 0 (va_A (wSs g a f10 f11 f12) sz) := by
  refine me (g := g) (by decide) rfl ?_
  intro pq eq s mq below meth cq C hnm hB ls hl
  obtain ⟨hx, hb, hr, hml, hown, hts, hlocks, hK⟩ := C
  have hown : s.vm.findClass RX2 = some mq.cls := hown
  have hl : lv_has ls 4 [(0, .ref (a 6)), (1, .int (iI b)), (2, .int (iI n))] := hl
  obtain ⟨hsz, hP, hD0⟩ := hB
  subst hsz
  have hD := hD0.self (sz := s.heap.size)
  have hA : ∀ q : Nat, s.heap.size ≤ q → va_A (wSs g a f10 f11 f12) s.heap.size q := fun q h => Or.inr h
  have hS : va_S (va_A (wSs g a f10 f11 f12) s.heap.size) s.heap s.heap [] := va_S.rf
  have q1 := h1.1
  have q2 := h1.2
  refine lv_aload_n hx hb dX2_renew_0 rfl (lv_at hl 0 rfl) ?_
  refine lv_iload_n hx hb dX2_renew_1 rfl (lv_at hl 1 rfl) ?_
  refine xp_X2 hx hb hts hown hK hP hD hS 6 rfl 1 (by decide) fk_X2_15 rfl (v := .int (iI b)) rfl rfl (Nat.le_of_ble_eq_true rfl) dX2_renew_2 (fun H locs hP hD hS => ?_)
  have hP := Eq.mp (congrArg (fun z9 : va_W => va_P g.1 vwCl (z9) H) (Ss_bits_3 (g := g) (a := a) (s10 := f10) (s11 := f11) (s12 := f12) (v := b))) hP
  have hD := Eq.mp (congrArg (fun z9 : va_W => va_D (va_A (wSs g a f10 f11 f12) s.heap.size) (z9)) (Ss_bits_3 (g := g) (a := a) (s10 := f10) (s11 := f11) (s12 := f12) (v := b))) hD
  have hP : va_P g.1 vwCl (wSs g a (up f10 3 b) f11 f12) H := hP
  have hD : va_D (va_A (wSs g a f10 f11 f12) s.heap.size) (wSs g a (up f10 3 b) f11 f12) := hD
  refine lv_aload_n hx hb dX2_renew_5 rfl (lv_at hl 0 rfl) ?_
  refine lv_iload_n hx hb dX2_renew_6 rfl (lv_at hl 1 rfl) ?_
  refine xi_z_ne (tgt := 14) hx hb ⟨by omega, by omega⟩ dX2_renew_7 (by decide) (fun z1 => ?_) (fun z1 => ?_)
  · refine lv_iload_n hx hb dX2_renew_14 rfl (lv_at hl 2 rfl) ?_
    refine xp_X2 hx hb hts hown hK hP hD hS 6 rfl 2 (by decide) fk_X2_19 rfl (v := .int (iI n)) rfl rfl (Nat.le_of_ble_eq_true rfl) dX2_renew_15 (fun H locs hP hD hS => ?_)
    have hP := Eq.mp (congrArg (fun z9 : va_W => va_P g.1 vwCl (z9) H) (Ss_size_3 (g := g) (a := a) (s10 := up f10 3 b) (s11 := f11) (s12 := f12) (v := n))) hP
    have hD := Eq.mp (congrArg (fun z9 : va_W => va_D (va_A (wSs g a f10 f11 f12) s.heap.size) (z9)) (Ss_size_3 (g := g) (a := a) (s10 := up f10 3 b) (s11 := f11) (s12 := f12) (v := n))) hD
    have hP : va_P g.1 vwCl (wSs g a (up f10 3 b) (up f11 3 n) f12) H := hP
    have hD : va_D (va_A (wSs g a f10 f11 f12) s.heap.size) (wSs g a (up f10 3 b) (up f11 3 n) f12) := hD
    refine lv_iconst (v := iI (0)) hx hb dX2_renew_18 (by decide) ?_
    refine lv_istore_n (lv' := [(3, .int (iI 0)), (0, .ref (a 6)), (1, .int (iI b)), (2, .int (iI n))]) hx hb dX2_renew_19 rfl hl (by decide) rfl (fun ls hl => ?_)
    have lp20 : ∀ (n20 : Nat) (i : Int), (0 ≤ i ∧ i ≤ 40) → (40 - i).toNat < n20 → ∀ ls : Array Slot, lv_has ls 4 [(3, .int (iI i)), (0, .ref (a 6)), (1, .int (iI b)), (2, .int (iI n))] → ∀ (H : Heap) (locs : List Loc), va_P g.1 vwCl (wSs g a (up f10 3 b) (up f11 3 n) (zrT f12 120 i)) H → va_D (va_A (wSs g a f10 f11 f12) s.heap.size) (wSs g a (up f10 3 b) (up f11 3 n) (zrT f12 120 i)) → va_S (va_A (wSs g a f10 f11 f12) s.heap.size) s.heap H locs → W pq l eq rm_X2_renew s mq [.ref (a 6), .int (iI b), .int (iI n)].toArray below meth cq H locs 0 0 (MQ below (QMv g (fun _ : Unit => wSs g a (up f10 3 b) (up f11 3 (if b = 0 then 0 else n)) (zrT f12 120 40)) (fun _ => True) (va_A (wSs g a f10 f11 f12) s.heap.size)) [.ref (a 6), .int (iI b), .int (iI n)].toArray s 0 0 (va_A (wSs g a f10 f11 f12) s.heap.size)) (F0 mq 20 ls []) := by
      intro n20
      induction n20 with
      | zero => intro i i20_1 hm; exact absurd hm (Nat.not_lt_zero _)
      | succ n20 ih20 =>
        intro i i20_1 hm20 ls hl H locs hP hD hS
        refine lv_iload_n hx hb dX2_renew_20 rfl (lv_at hl 0 rfl) ?_
        refine lv_bipush (v := iI (40)) hx hb dX2_renew_21 (by decide) ?_
        refine xi_c_ge (tgt := 39) hx hb ⟨by omega, by omega⟩ ⟨by decide, by decide⟩ dX2_renew_23 (by decide) (fun z2 => ?_) (fun z2 => ?_)
        · have he3 : (up f11 3 n) = (up f11 3 (if b = 0 then 0 else n)) := by first | (rw [if_pos (by omega)]; done) | (rw [if_neg (by omega)]; done)
          have hP := Eq.mp (congrArg (fun z9 => va_P g.1 vwCl (wSs g a (up f10 3 b) z9 (zrT f12 120 i)) H) he3) hP
          have hD := Eq.mp (congrArg (fun z9 => va_D (va_A (wSs g a f10 f11 f12) s.heap.size) (wSs g a (up f10 3 b) z9 (zrT f12 120 i))) he3) hD
          have he4 : (zrT f12 120 i) = (zrT f12 120 40) := by rw [show i = 40 by omega]
          have hP := Eq.mp (congrArg (fun z9 => va_P g.1 vwCl (wSs g a (up f10 3 b) (up f11 3 (if b = 0 then 0 else n)) z9) H) he4) hP
          have hD := Eq.mp (congrArg (fun z9 => va_D (va_A (wSs g a f10 f11 f12) s.heap.size) (wSs g a (up f10 3 b) (up f11 3 (if b = 0 then 0 else n)) z9)) he4) hD
          have hP : va_P g.1 vwCl (wSs g a (up f10 3 b) (up f11 3 (if b = 0 then 0 else n)) (zrT f12 120 40)) H := hP
          have hD : va_D (va_A (wSs g a f10 f11 f12) s.heap.size) (wSs g a (up f10 3 b) (up f11 3 (if b = 0 then 0 else n)) (zrT f12 120 40)) := hD
          exact W.vret hx hb hr (fun t ht hW => ⟨⟨(), rfl, trivial, by rw [ht]; exact hP, hD⟩, hS.F ht⟩) hS.2.2 dX2_renew_39
        · refine lv_aload_n hx hb dX2_renew_26 rfl (lv_at hl 1 rfl) ?_
          refine xg_X2 hx hb hts hown hK hP 6 rfl 0 (by decide) fk_X2_9 (v := .ref (a 7)) rfl dX2_renew_27 ?_
          refine lv_iload_n hx hb dX2_renew_30 rfl (lv_at hl 0 rfl) ?_
          refine lv_lconst (v := lI (0)) hx hb dX2_renew_31 (by decide) ?_
          refine xl_ast hx hb hK hP hD hS 7 (f := pj 120 40 (zrT f12 120 i)) rfl (i := i) (v := 0) ⟨by omega, by omega⟩ rfl dX2_renew_32 (fun H locs hP hD hS => ?_)
          have hP := Eq.mp (congrArg (fun z9 : va_W => va_P g.1 vwCl (z9) H) (Ss_numbers_3 (g := g) (a := a) (s10 := up f10 3 b) (s11 := up f11 3 n) (s12 := zrT f12 120 i) (i := i) (v := 0) ⟨by omega, by omega⟩)) hP
          have hD := Eq.mp (congrArg (fun z9 : va_W => va_D (va_A (wSs g a f10 f11 f12) s.heap.size) (z9)) (Ss_numbers_3 (g := g) (a := a) (s10 := up f10 3 b) (s11 := up f11 3 n) (s12 := zrT f12 120 i) (i := i) (v := 0) ⟨by omega, by omega⟩)) hD
          have hP : va_P g.1 vwCl (wSs g a (up f10 3 b) (up f11 3 n) (up (zrT f12 120 i) (120 + i) 0)) H := hP
          have hD : va_D (va_A (wSs g a f10 f11 f12) s.heap.size) (wSs g a (up f10 3 b) (up f11 3 n) (up (zrT f12 120 i) (120 + i) 0)) := hD
          refine xi_inc (lv' := [(3, .int (iI (i + 1))), (0, .ref (a 6)), (1, .int (iI b)), (2, .int (iI n))]) hx hb dX2_renew_33 hl (k := 0) rfl (by decide) rfl (fun ls hl => ?_)
          refine lv_goto (tgt := 20) hx hb dX2_renew_36 (by decide) ?_
          have hq5 : (up (zrT f12 120 i) (120 + i) 0) = (zrT f12 120 (i + 1)) := zrT_S f12 120 i20_1.1
          have hP := Eq.mp (congrArg (fun z9 => va_P g.1 vwCl (wSs g a (up f10 3 b) (up f11 3 n) z9) H) hq5) hP
          have hD := Eq.mp (congrArg (fun z9 => va_D (va_A (wSs g a f10 f11 f12) s.heap.size) (wSs g a (up f10 3 b) (up f11 3 n) z9)) hq5) hD
          exact ih20 (i + 1) (by omega) (by omega) ls (lv_sub hl [0, 1, 2, 3] rfl) H locs hP hD hS
    have hq6 : f12 = (zrT f12 120 0) := zrT_0 f12 120
    have hP := Eq.mp (congrArg (fun z9 => va_P g.1 vwCl (wSs g a (up f10 3 b) (up f11 3 n) z9) H) hq6) hP
    have hD := Eq.mp (congrArg (fun z9 => va_D (va_A (wSs g a f10 f11 f12) s.heap.size) (wSs g a (up f10 3 b) (up f11 3 n) z9)) hq6) hD
    exact lp20 (40 + 1) 0 (by omega) (by omega) ls (lv_sub hl [0, 1, 2, 3] rfl) H locs hP hD hS
  · refine lv_iconst (v := iI (0)) hx hb dX2_renew_10 (by decide) ?_
    refine lv_goto (tgt := 15) hx hb dX2_renew_11 (by decide) ?_
    refine xp_X2 hx hb hts hown hK hP hD hS 6 rfl 2 (by decide) fk_X2_19 rfl (v := .int (iI 0)) rfl rfl (Nat.le_of_ble_eq_true rfl) dX2_renew_15 (fun H locs hP hD hS => ?_)
    have hP := Eq.mp (congrArg (fun z9 : va_W => va_P g.1 vwCl (z9) H) (Ss_size_3 (g := g) (a := a) (s10 := up f10 3 b) (s11 := f11) (s12 := f12) (v := 0))) hP
    have hD := Eq.mp (congrArg (fun z9 : va_W => va_D (va_A (wSs g a f10 f11 f12) s.heap.size) (z9)) (Ss_size_3 (g := g) (a := a) (s10 := up f10 3 b) (s11 := f11) (s12 := f12) (v := 0))) hD
    have hP : va_P g.1 vwCl (wSs g a (up f10 3 b) (up f11 3 0) f12) H := hP
    have hD : va_D (va_A (wSs g a f10 f11 f12) s.heap.size) (wSs g a (up f10 3 b) (up f11 3 0) f12) := hD
    refine lv_iconst (v := iI (0)) hx hb dX2_renew_18 (by decide) ?_
    refine lv_istore_n (lv' := [(3, .int (iI 0)), (0, .ref (a 6)), (1, .int (iI b)), (2, .int (iI n))]) hx hb dX2_renew_19 rfl hl (by decide) rfl (fun ls hl => ?_)
    have lp20 : ∀ (n20 : Nat) (i : Int), (0 ≤ i ∧ i ≤ 40) → (40 - i).toNat < n20 → ∀ ls : Array Slot, lv_has ls 4 [(3, .int (iI i)), (0, .ref (a 6)), (1, .int (iI b)), (2, .int (iI n))] → ∀ (H : Heap) (locs : List Loc), va_P g.1 vwCl (wSs g a (up f10 3 b) (up f11 3 0) (zrT f12 120 i)) H → va_D (va_A (wSs g a f10 f11 f12) s.heap.size) (wSs g a (up f10 3 b) (up f11 3 0) (zrT f12 120 i)) → va_S (va_A (wSs g a f10 f11 f12) s.heap.size) s.heap H locs → W pq l eq rm_X2_renew s mq [.ref (a 6), .int (iI b), .int (iI n)].toArray below meth cq H locs 0 0 (MQ below (QMv g (fun _ : Unit => wSs g a (up f10 3 b) (up f11 3 (if b = 0 then 0 else n)) (zrT f12 120 40)) (fun _ => True) (va_A (wSs g a f10 f11 f12) s.heap.size)) [.ref (a 6), .int (iI b), .int (iI n)].toArray s 0 0 (va_A (wSs g a f10 f11 f12) s.heap.size)) (F0 mq 20 ls []) := by
      intro n20
      induction n20 with
      | zero => intro i i20_1 hm; exact absurd hm (Nat.not_lt_zero _)
      | succ n20 ih20 =>
        intro i i20_1 hm20 ls hl H locs hP hD hS
        refine lv_iload_n hx hb dX2_renew_20 rfl (lv_at hl 0 rfl) ?_
        refine lv_bipush (v := iI (40)) hx hb dX2_renew_21 (by decide) ?_
        refine xi_c_ge (tgt := 39) hx hb ⟨by omega, by omega⟩ ⟨by decide, by decide⟩ dX2_renew_23 (by decide) (fun z7 => ?_) (fun z7 => ?_)
        · have he8 : (up f11 3 0) = (up f11 3 (if b = 0 then 0 else n)) := by first | (rw [if_pos (by omega)]; done) | (rw [if_neg (by omega)]; done)
          have hP := Eq.mp (congrArg (fun z9 => va_P g.1 vwCl (wSs g a (up f10 3 b) z9 (zrT f12 120 i)) H) he8) hP
          have hD := Eq.mp (congrArg (fun z9 => va_D (va_A (wSs g a f10 f11 f12) s.heap.size) (wSs g a (up f10 3 b) z9 (zrT f12 120 i))) he8) hD
          have he9 : (zrT f12 120 i) = (zrT f12 120 40) := by rw [show i = 40 by omega]
          have hP := Eq.mp (congrArg (fun z9 => va_P g.1 vwCl (wSs g a (up f10 3 b) (up f11 3 (if b = 0 then 0 else n)) z9) H) he9) hP
          have hD := Eq.mp (congrArg (fun z9 => va_D (va_A (wSs g a f10 f11 f12) s.heap.size) (wSs g a (up f10 3 b) (up f11 3 (if b = 0 then 0 else n)) z9)) he9) hD
          have hP : va_P g.1 vwCl (wSs g a (up f10 3 b) (up f11 3 (if b = 0 then 0 else n)) (zrT f12 120 40)) H := hP
          have hD : va_D (va_A (wSs g a f10 f11 f12) s.heap.size) (wSs g a (up f10 3 b) (up f11 3 (if b = 0 then 0 else n)) (zrT f12 120 40)) := hD
          exact W.vret hx hb hr (fun t ht hW => ⟨⟨(), rfl, trivial, by rw [ht]; exact hP, hD⟩, hS.F ht⟩) hS.2.2 dX2_renew_39
        · refine lv_aload_n hx hb dX2_renew_26 rfl (lv_at hl 1 rfl) ?_
          refine xg_X2 hx hb hts hown hK hP 6 rfl 0 (by decide) fk_X2_9 (v := .ref (a 7)) rfl dX2_renew_27 ?_
          refine lv_iload_n hx hb dX2_renew_30 rfl (lv_at hl 0 rfl) ?_
          refine lv_lconst (v := lI (0)) hx hb dX2_renew_31 (by decide) ?_
          refine xl_ast hx hb hK hP hD hS 7 (f := pj 120 40 (zrT f12 120 i)) rfl (i := i) (v := 0) ⟨by omega, by omega⟩ rfl dX2_renew_32 (fun H locs hP hD hS => ?_)
          have hP := Eq.mp (congrArg (fun z9 : va_W => va_P g.1 vwCl (z9) H) (Ss_numbers_3 (g := g) (a := a) (s10 := up f10 3 b) (s11 := up f11 3 0) (s12 := zrT f12 120 i) (i := i) (v := 0) ⟨by omega, by omega⟩)) hP
          have hD := Eq.mp (congrArg (fun z9 : va_W => va_D (va_A (wSs g a f10 f11 f12) s.heap.size) (z9)) (Ss_numbers_3 (g := g) (a := a) (s10 := up f10 3 b) (s11 := up f11 3 0) (s12 := zrT f12 120 i) (i := i) (v := 0) ⟨by omega, by omega⟩)) hD
          have hP : va_P g.1 vwCl (wSs g a (up f10 3 b) (up f11 3 0) (up (zrT f12 120 i) (120 + i) 0)) H := hP
          have hD : va_D (va_A (wSs g a f10 f11 f12) s.heap.size) (wSs g a (up f10 3 b) (up f11 3 0) (up (zrT f12 120 i) (120 + i) 0)) := hD
          refine xi_inc (lv' := [(3, .int (iI (i + 1))), (0, .ref (a 6)), (1, .int (iI b)), (2, .int (iI n))]) hx hb dX2_renew_33 hl (k := 0) rfl (by decide) rfl (fun ls hl => ?_)
          refine lv_goto (tgt := 20) hx hb dX2_renew_36 (by decide) ?_
          have hq10 : (up (zrT f12 120 i) (120 + i) 0) = (zrT f12 120 (i + 1)) := zrT_S f12 120 i20_1.1
          have hP := Eq.mp (congrArg (fun z9 => va_P g.1 vwCl (wSs g a (up f10 3 b) (up f11 3 0) z9) H) hq10) hP
          have hD := Eq.mp (congrArg (fun z9 => va_D (va_A (wSs g a f10 f11 f12) s.heap.size) (wSs g a (up f10 3 b) (up f11 3 0) z9)) hq10) hD
          exact ih20 (i + 1) (by omega) (by omega) ls (lv_sub hl [0, 1, 2, 3] rfl) H locs hP hD hS
    have hq11 : f12 = (zrT f12 120 0) := zrT_0 f12 120
    have hP := Eq.mp (congrArg (fun z9 => va_P g.1 vwCl (wSs g a (up f10 3 b) (up f11 3 0) z9) H) hq11) hP
    have hD := Eq.mp (congrArg (fun z9 => va_D (va_A (wSs g a f10 f11 f12) s.heap.size) (wSs g a (up f10 3 b) (up f11 3 0) z9)) hq11) hD
    exact lp20 (40 + 1) 0 (by omega) (by omega) ls (lv_sub hl [0, 1, 2, 3] rfl) H locs hP hD hS
set_option maxRecDepth 100000 in
set_option maxHeartbeats 4000000 in
theorem c_X2_put3 (l : Launch) (g : Gd) (a : Nat → Nat) (f10 : Int → Int) (f11 : Int → Int) (f12 : Int → Int) (i : Int) (v : Int) (sz : Nat) (h1 : IR (f10 3)) (h2 : 0 ≤ i ∧ i < 40) : Met l yX2_put (wsOf yX2_put cX2_put 4 none) rm_X2_put (PX g (wP g (wSs g a f10 f11 f12) sz) [.ref (a 6), .int (iI i), .long (lI v)]) (QMv g (fun _ : Unit => wSs g a f10 f11 (up f12 (120 + i) (nrw (f10 3) v))) (fun _ => True) (va_A (wSs g a f10 f11 f12) sz)) 0 0 (va_A (wSs g a f10 f11 f12) sz) := by
  refine me (g := g) (by decide) rfl ?_
  intro pq eq s mq below meth cq C hnm hB ls hl
  obtain ⟨hx, hb, hr, hml, hown, hts, hlocks, hK⟩ := C
  have hown : s.vm.findClass RX2 = some mq.cls := hown
  have hl : lv_has ls 4 [(0, .ref (a 6)), (1, .int (iI i)), (2, .long (lI v))] := hl
  obtain ⟨hsz, hP, hD0⟩ := hB
  subst hsz
  have hD := hD0.self (sz := s.heap.size)
  have hA : ∀ q : Nat, s.heap.size ≤ q → va_A (wSs g a f10 f11 f12) s.heap.size q := fun q h => Or.inr h
  have hS : va_S (va_A (wSs g a f10 f11 f12) s.heap.size) s.heap s.heap [] := va_S.rf
  have q1 := h1.1
  have q2 := h1.2
  refine lv_aload_n hx hb dX2_put_0 rfl (lv_at hl 0 rfl) ?_
  refine xg_X2 hx hb hts hown hK hP 6 rfl 1 (by decide) fk_X2_15 (v := .int (iI (f10 3))) rfl dX2_put_1 ?_
  have hir1 : IR (f10 3) := ⟨by omega, by omega⟩
  rcases (show (f10 3) = 8 ∨ (f10 3) = 16 ∨ (¬ (f10 3) = 8 ∧ ¬ (f10 3) = 16) by omega) with z1 | z1 | z1
  · refine lv_lookup (tgt := 32) (off := 28) hx hb dX2_put_4 (by decide) (by rw [iI_toInt hir1, z1]; decide) (by decide) ?_
    refine lv_aload_n hx hb dX2_put_32 rfl (lv_at hl 0 rfl) ?_
    refine xg_X2 hx hb hts hown hK hP 6 rfl 0 (by decide) fk_X2_9 (v := .ref (a 7)) rfl dX2_put_33 ?_
    refine lv_iload_n hx hb dX2_put_36 rfl (lv_at hl 1 rfl) ?_
    refine lv_lload_n hx hb dX2_put_37 rfl (lv_at hl 2 rfl) ?_
    refine xi_l2i hx hb dX2_put_38 ?_
    refine xi_i2b hx hb dX2_put_39 ?_
    have hb2 := n8_b v
    refine xi_i2l hx hb ⟨by omega, by omega⟩ dX2_put_40 ?_
    refine xl_ast hx hb hK hP hD hS 7 (f := pj 120 40 f12) rfl (i := i) (v := n8 v) ⟨by omega, by omega⟩ rfl dX2_put_41 (fun H locs hP hD hS => ?_)
    have hP := Eq.mp (congrArg (fun z9 : va_W => va_P g.1 vwCl (z9) H) (Ss_numbers_3 (g := g) (a := a) (s10 := f10) (s11 := f11) (s12 := f12) (i := i) (v := n8 v) ⟨by omega, by omega⟩)) hP
    have hD := Eq.mp (congrArg (fun z9 : va_W => va_D (va_A (wSs g a f10 f11 f12) s.heap.size) (z9)) (Ss_numbers_3 (g := g) (a := a) (s10 := f10) (s11 := f11) (s12 := f12) (i := i) (v := n8 v) ⟨by omega, by omega⟩)) hD
    have hP : va_P g.1 vwCl (wSs g a f10 f11 (up f12 (120 + i) (n8 v))) H := hP
    have hD : va_D (va_A (wSs g a f10 f11 f12) s.heap.size) (wSs g a f10 f11 (up f12 (120 + i) (n8 v))) := hD
    refine lv_goto (tgt := 65) hx hb dX2_put_42 (by decide) ?_
    have he3 : (up f12 (120 + i) (n8 v)) = (up f12 (120 + i) (nrw (f10 3) v)) := by unfold nrw; first | (rw [if_pos (by omega)]; done) | (rw [if_neg (by omega), if_pos (by omega)]; done) | (rw [if_neg (by omega), if_neg (by omega)]; done)
    have hP := Eq.mp (congrArg (fun z9 => va_P g.1 vwCl (wSs g a f10 f11 z9) H) he3) hP
    have hD := Eq.mp (congrArg (fun z9 => va_D (va_A (wSs g a f10 f11 f12) s.heap.size) (wSs g a f10 f11 z9)) he3) hD
    have hP : va_P g.1 vwCl (wSs g a f10 f11 (up f12 (120 + i) (nrw (f10 3) v))) H := hP
    have hD : va_D (va_A (wSs g a f10 f11 f12) s.heap.size) (wSs g a f10 f11 (up f12 (120 + i) (nrw (f10 3) v))) := hD
    exact W.vret hx hb hr (fun t ht hW => ⟨⟨(), rfl, trivial, by rw [ht]; exact hP, hD⟩, hS.F ht⟩) hS.2.2 dX2_put_65
  · refine lv_lookup (tgt := 45) (off := 41) hx hb dX2_put_4 (by decide) (by rw [iI_toInt hir1, z1]; decide) (by decide) ?_
    refine lv_aload_n hx hb dX2_put_45 rfl (lv_at hl 0 rfl) ?_
    refine xg_X2 hx hb hts hown hK hP 6 rfl 0 (by decide) fk_X2_9 (v := .ref (a 7)) rfl dX2_put_46 ?_
    refine lv_iload_n hx hb dX2_put_49 rfl (lv_at hl 1 rfl) ?_
    refine lv_lload_n hx hb dX2_put_50 rfl (lv_at hl 2 rfl) ?_
    refine xi_l2i hx hb dX2_put_51 ?_
    refine xi_i2s hx hb dX2_put_52 ?_
    have hb4 := n16_b v
    refine xi_i2l hx hb ⟨by omega, by omega⟩ dX2_put_53 ?_
    refine xl_ast hx hb hK hP hD hS 7 (f := pj 120 40 f12) rfl (i := i) (v := n16 v) ⟨by omega, by omega⟩ rfl dX2_put_54 (fun H locs hP hD hS => ?_)
    have hP := Eq.mp (congrArg (fun z9 : va_W => va_P g.1 vwCl (z9) H) (Ss_numbers_3 (g := g) (a := a) (s10 := f10) (s11 := f11) (s12 := f12) (i := i) (v := n16 v) ⟨by omega, by omega⟩)) hP
    have hD := Eq.mp (congrArg (fun z9 : va_W => va_D (va_A (wSs g a f10 f11 f12) s.heap.size) (z9)) (Ss_numbers_3 (g := g) (a := a) (s10 := f10) (s11 := f11) (s12 := f12) (i := i) (v := n16 v) ⟨by omega, by omega⟩)) hD
    have hP : va_P g.1 vwCl (wSs g a f10 f11 (up f12 (120 + i) (n16 v))) H := hP
    have hD : va_D (va_A (wSs g a f10 f11 f12) s.heap.size) (wSs g a f10 f11 (up f12 (120 + i) (n16 v))) := hD
    refine lv_goto (tgt := 65) hx hb dX2_put_55 (by decide) ?_
    have he5 : (up f12 (120 + i) (n16 v)) = (up f12 (120 + i) (nrw (f10 3) v)) := by unfold nrw; first | (rw [if_pos (by omega)]; done) | (rw [if_neg (by omega), if_pos (by omega)]; done) | (rw [if_neg (by omega), if_neg (by omega)]; done)
    have hP := Eq.mp (congrArg (fun z9 => va_P g.1 vwCl (wSs g a f10 f11 z9) H) he5) hP
    have hD := Eq.mp (congrArg (fun z9 => va_D (va_A (wSs g a f10 f11 f12) s.heap.size) (wSs g a f10 f11 z9)) he5) hD
    have hP : va_P g.1 vwCl (wSs g a f10 f11 (up f12 (120 + i) (nrw (f10 3) v))) H := hP
    have hD : va_D (va_A (wSs g a f10 f11 f12) s.heap.size) (wSs g a f10 f11 (up f12 (120 + i) (nrw (f10 3) v))) := hD
    exact W.vret hx hb hr (fun t ht hW => ⟨⟨(), rfl, trivial, by rw [ht]; exact hP, hD⟩, hS.F ht⟩) hS.2.2 dX2_put_65
  · refine lv_lookup (tgt := 58) (off := 54) hx hb dX2_put_4 (by decide) (by rw [iI_toInt hir1]; exact lku_no2 z1) (by decide) ?_
    refine lv_aload_n hx hb dX2_put_58 rfl (lv_at hl 0 rfl) ?_
    refine xg_X2 hx hb hts hown hK hP 6 rfl 0 (by decide) fk_X2_9 (v := .ref (a 7)) rfl dX2_put_59 ?_
    refine lv_iload_n hx hb dX2_put_62 rfl (lv_at hl 1 rfl) ?_
    refine lv_lload_n hx hb dX2_put_63 rfl (lv_at hl 2 rfl) ?_
    refine xl_ast hx hb hK hP hD hS 7 (f := pj 120 40 f12) rfl (i := i) (v := v) ⟨by omega, by omega⟩ rfl dX2_put_64 (fun H locs hP hD hS => ?_)
    have hP := Eq.mp (congrArg (fun z9 : va_W => va_P g.1 vwCl (z9) H) (Ss_numbers_3 (g := g) (a := a) (s10 := f10) (s11 := f11) (s12 := f12) (i := i) (v := v) ⟨by omega, by omega⟩)) hP
    have hD := Eq.mp (congrArg (fun z9 : va_W => va_D (va_A (wSs g a f10 f11 f12) s.heap.size) (z9)) (Ss_numbers_3 (g := g) (a := a) (s10 := f10) (s11 := f11) (s12 := f12) (i := i) (v := v) ⟨by omega, by omega⟩)) hD
    have hP : va_P g.1 vwCl (wSs g a f10 f11 (up f12 (120 + i) v)) H := hP
    have hD : va_D (va_A (wSs g a f10 f11 f12) s.heap.size) (wSs g a f10 f11 (up f12 (120 + i) v)) := hD
    have he6 : (up f12 (120 + i) v) = (up f12 (120 + i) (nrw (f10 3) v)) := by unfold nrw; first | (rw [if_pos (by omega)]; done) | (rw [if_neg (by omega), if_pos (by omega)]; done) | (rw [if_neg (by omega), if_neg (by omega)]; done)
    have hP := Eq.mp (congrArg (fun z9 => va_P g.1 vwCl (wSs g a f10 f11 z9) H) he6) hP
    have hD := Eq.mp (congrArg (fun z9 => va_D (va_A (wSs g a f10 f11 f12) s.heap.size) (wSs g a f10 f11 z9)) he6) hD
    have hP : va_P g.1 vwCl (wSs g a f10 f11 (up f12 (120 + i) (nrw (f10 3) v))) H := hP
    have hD : va_D (va_A (wSs g a f10 f11 f12) s.heap.size) (wSs g a f10 f11 (up f12 (120 + i) (nrw (f10 3) v))) := hD
    exact W.vret hx hb hr (fun t ht hW => ⟨⟨(), rfl, trivial, by rw [ht]; exact hP, hD⟩, hS.F ht⟩) hS.2.2 dX2_put_65
abbrev rm_X0_bookCells : Room := { frames := 3, cells := 0, slots := 0, locals := 101 }
set_option maxRecDepth 100000 in
set_option maxHeartbeats 4000000 in
theorem c_X0_bookCells0 (l : Launch) (g : Gd) (a : Nat → Nat) (f1 : Int → Int) (b : Nat → Nat) (e1 : Int → Int) (e10 : Int → Int) (e11 : Int → Int) (d : Nat → Nat) (t1 : Int → Int) (t10 : Int → Int) (t11 : Int → Int) (sh : Nat → Nat) (m10 : Int → Int) (m11 : Int → Int) (m12 : Int → Int) (r : Int) (sz : Nat) (h1 : InvK 0 e1) (h2 : e1 0 ≤ 9999) (h3 : 0 ≤ r ∧ r < e1 1) (h4 : 0 ≤ m11 0 ∧ m11 0 ≤ 40) (h5 : IR (m10 0)) : Met l yX0_bookCells (wsOf yX0_bookCells cX0_bookCells 4 none) rm_X0_bookCells (PX g (wP g (wF g a b d f1 ++ (wLs g b e1 e10 e11 ++ (wLs g d t1 t10 t11 ++ (wSs g sh m10 m11 m12)))) sz) [.ref (a 0), .ref (sh 0), .int (iI r)]) (QMv g (fun u9 : Nat → Int → Int => wF g a b d f1 ++ (wLs g b e1 e10 e11 ++ (wLs g d (u9 201) (u9 210) (u9 211) ++ (wSs g sh m10 m11 (bkT e1 m12 0 r (m11 0)))))) (fun _ => True) (va_A (wF g a b d f1 ++ (wLs g b e1 e10 e11 ++ (wLs g d t1 t10 t11 ++ (wSs g sh m10 m11 m12)))) sz)) 0 0 (va_A (wF g a b d f1 ++ (wLs g b e1 e10 e11 ++ (wLs g d t1 t10 t11 ++ (wSs g sh m10 m11 m12)))) sz) := by
  refine me (g := g) (by decide) rfl ?_
  intro pq eq s mq below meth cq C hnm hB ls hl
  obtain ⟨hx, hb, hr, hml, hown, hts, hlocks, hK⟩ := C
  have hown : s.vm.findClass RX0 = some mq.cls := hown
  have hl : lv_has ls 4 [(0, .ref (a 0)), (1, .ref (sh 0)), (2, .int (iI r))] := hl
  obtain ⟨hsz, hP, hD0⟩ := hB
  subst hsz
  have hD := hD0.self (sz := s.heap.size)
  have hA : ∀ q : Nat, s.heap.size ≤ q → va_A (wF g a b d f1 ++ (wLs g b e1 e10 e11 ++ (wLs g d t1 t10 t11 ++ (wSs g sh m10 m11 m12)))) s.heap.size q := fun q h => Or.inr h
  have hS : va_S (va_A (wF g a b d f1 ++ (wLs g b e1 e10 e11 ++ (wLs g d t1 t10 t11 ++ (wSs g sh m10 m11 m12)))) s.heap.size) s.heap s.heap [] := va_S.rf
  obtain ⟨hP0, hPr0⟩ := va_P_app.mp hP
  obtain ⟨hP1, hPr1⟩ := va_P_app.mp hPr0
  obtain ⟨hP2, hP3⟩ := va_P_app.mp hPr1
  have hI := h1
  have hI8 : Inv e1 := h1.mono (by omega)
  have hn := hI.num
  have hs := hI.sea
  have hv := hI.vil
  have hnw : ∀ v, 0 ≤ v → v ≤ 23 → nrw (m10 0) v = v := fun v h0 h1 => nrw_s h0 h1
  refine lv_aload_n hx hb dX0_bookCells_0 rfl (lv_at hl 0 rfl) ?_
  refine xg_X0 hx hb hts hown hK hP0 0 rfl 1 (by decide) fk_X0_12 (v := .ref (d 0)) rfl dX0_bookCells_1 ?_
  refine lv_aload_n hx hb dX0_bookCells_4 rfl (lv_at hl 0 rfl) ?_
  refine xg_X0 hx hb hts hown hK hP0 0 rfl 0 (by decide) fk_X0_22 (v := .ref (b 0)) rfl dX0_bookCells_5 ?_
  have hD : va_D (va_A (wF g a b d f1 ++ (wLs g b e1 e10 e11 ++ (wLs g d t1 t10 t11 ++ (wSs g sh m10 m11 m12)))) s.heap.size) (wF g a b d f1 ++ (wLs g d t1 t10 t11 ++ (wLs g b e1 e10 e11 ++ (wSs g sh m10 m11 m12)))) := D_perm (List.Perm.append_left _ (List.perm_append_comm_assoc _ _ _)) hD
  have hD : va_D (va_A (wF g a b d f1 ++ (wLs g b e1 e10 e11 ++ (wLs g d t1 t10 t11 ++ (wSs g sh m10 m11 m12)))) s.heap.size) (wLs g d t1 t10 t11 ++ (wF g a b d f1 ++ (wLs g b e1 e10 e11 ++ (wSs g sh m10 m11 m12)))) := D_perm (List.perm_append_comm_assoc _ _ _) hD
  have hD : va_D (va_A (wF g a b d f1 ++ (wLs g b e1 e10 e11 ++ (wLs g d t1 t10 t11 ++ (wSs g sh m10 m11 m12)))) s.heap.size) (wLs g d t1 t10 t11 ++ (wLs g b e1 e10 e11 ++ (wF g a b d f1 ++ (wSs g sh m10 m11 m12)))) := D_perm (List.Perm.append_left _ (List.perm_append_comm_assoc _ _ _)) hD
  have hP : va_P g.1 vwCl (wLs g d t1 t10 t11 ++ (wLs g b e1 e10 e11 ++ (wF g a b d f1 ++ (wSs g sh m10 m11 m12)))) s.heap := va_P_app.mpr ⟨hP2, va_P_app.mpr ⟨hP1, va_P_app.mpr ⟨hP0, hP3⟩⟩⟩
  have hP : va_P g.1 vwCl ((wLs g d t1 t10 t11 ++ (wLs g b e1 e10 e11)) ++ (wF g a b d f1 ++ (wSs g sh m10 m11 m12))) s.heap := by rw [List.append_assoc]; exact hP
  have hD : va_D (va_A (wF g a b d f1 ++ (wLs g b e1 e10 e11 ++ (wLs g d t1 t10 t11 ++ (wSs g sh m10 m11 m12)))) s.heap.size) ((wLs g d t1 t10 t11 ++ (wLs g b e1 e10 e11)) ++ (wF g a b d f1 ++ (wSs g sh m10 m11 m12))) := by rw [List.append_assoc]; exact hD
  refine xmF_v (rVN (rest := []) hx hb hml hown hts hK hl (c_X1_becomes l g d t1 t10 t11 b e1 e10 e11 (s.heap).size ) lk_X0_25 ⟨rfl, (va_P_app.mp hP).1, (va_D_app hD).1.weaken (fun _ _ _ _ => trivial)⟩ (va_recv hK.1 hP2 (ci := 1) (q0 := 0) rfl rfl) rfl rfl rfl (Rm.of rfl) rfl rfl dX0_bookCells_8) hP hD hS hA (fun _ H locs hw hP hD hS => ?_)
  have hP : va_P g.1 vwCl ((wLs g d e1 t10 t11 ++ (wLs g b e1 e10 e11)) ++ (wF g a b d f1 ++ (wSs g sh m10 m11 m12))) H := hP
  have hD : va_D (va_A (wF g a b d f1 ++ (wLs g b e1 e10 e11 ++ (wLs g d t1 t10 t11 ++ (wSs g sh m10 m11 m12)))) s.heap.size) ((wLs g d e1 t10 t11 ++ (wLs g b e1 e10 e11)) ++ (wF g a b d f1 ++ (wSs g sh m10 m11 m12))) := hD
  rw [List.append_assoc] at hP hD
  have hP : va_P g.1 vwCl (wLs g d e1 t10 t11 ++ (wLs g b e1 e10 e11 ++ (wF g a b d f1 ++ (wSs g sh m10 m11 m12)))) H := hP
  have hD : va_D (va_A (wF g a b d f1 ++ (wLs g b e1 e10 e11 ++ (wLs g d t1 t10 t11 ++ (wSs g sh m10 m11 m12)))) s.heap.size) (wLs g d e1 t10 t11 ++ (wLs g b e1 e10 e11 ++ (wF g a b d f1 ++ (wSs g sh m10 m11 m12)))) := hD
  obtain ⟨hP2, hPr0⟩ := va_P_app.mp hP
  obtain ⟨hP1, hPr1⟩ := va_P_app.mp hPr0
  obtain ⟨hP0, hP3⟩ := va_P_app.mp hPr1
  refine lv_iconst (v := iI (0)) hx hb dX0_bookCells_11 (by decide) ?_
  refine lv_istore_n (lv' := [(3, .int (iI 0)), (0, .ref (a 0)), (1, .ref (sh 0)), (2, .int (iI r))]) hx hb dX0_bookCells_12 rfl hl (by decide) rfl (fun ls hl => ?_)
  have lp13 : ∀ (n13 : Nat) (j : Nat) (x9 : Int → Int) (y9 : Int → Int), ((j : Int) ≤ m11 0) → 40 - j < n13 → ∀ ls : Array Slot, lv_has ls 4 [(3, .int (iI (j : Int))), (0, .ref (a 0)), (1, .ref (sh 0)), (2, .int (iI r))] → ∀ (H : Heap) (locs : List Loc), va_P g.1 vwCl (wLs g d (seaN e1 j) x9 y9 ++ (wLs g b e1 e10 e11 ++ (wF g a b d f1 ++ (wSs g sh m10 m11 (bkT e1 m12 0 r (((j) : Nat) : Int)))))) H → va_D (va_A (wF g a b d f1 ++ (wLs g b e1 e10 e11 ++ (wLs g d t1 t10 t11 ++ (wSs g sh m10 m11 m12)))) s.heap.size) (wLs g d (seaN e1 j) x9 y9 ++ (wLs g b e1 e10 e11 ++ (wF g a b d f1 ++ (wSs g sh m10 m11 (bkT e1 m12 0 r (((j) : Nat) : Int)))))) → va_S (va_A (wF g a b d f1 ++ (wLs g b e1 e10 e11 ++ (wLs g d t1 t10 t11 ++ (wSs g sh m10 m11 m12)))) s.heap.size) s.heap H locs → W pq l eq rm_X0_bookCells s mq [.ref (a 0), .ref (sh 0), .int (iI r)].toArray below meth cq H locs 0 0 (MQ below (QMv g (fun u9 : Nat → Int → Int => wF g a b d f1 ++ (wLs g b e1 e10 e11 ++ (wLs g d (u9 201) (u9 210) (u9 211) ++ (wSs g sh m10 m11 (bkT e1 m12 0 r (m11 0)))))) (fun _ => True) (va_A (wF g a b d f1 ++ (wLs g b e1 e10 e11 ++ (wLs g d t1 t10 t11 ++ (wSs g sh m10 m11 m12)))) s.heap.size)) [.ref (a 0), .ref (sh 0), .int (iI r)].toArray s 0 0 (va_A (wF g a b d f1 ++ (wLs g b e1 e10 e11 ++ (wLs g d t1 t10 t11 ++ (wSs g sh m10 m11 m12)))) s.heap.size)) (F0 mq 13 ls []) := by
    intro n13
    induction n13 with
    | zero => intro j x9 y9 i13_1 hm; exact absurd hm (Nat.not_lt_zero _)
    | succ n13 ih13 =>
      intro j x9 y9 i13_1 hm13 ls hl H locs hP hD hS
      have hsn := seaN_inv hI j (by omega)
      have hs0 := hsn.2.1
      have hs1 := hsn.2.2 1 (by omega) (by omega)
      have hcr := hsn.1.ran r (by omega) (by omega)
      obtain ⟨hP2, hPr0⟩ := va_P_app.mp hP
      obtain ⟨hP1, hPr1⟩ := va_P_app.mp hPr0
      obtain ⟨hP0, hP3⟩ := va_P_app.mp hPr1
      refine lv_iload_n hx hb dX0_bookCells_13 rfl (lv_at hl 0 rfl) ?_
      refine lv_aload_n hx hb dX0_bookCells_14 rfl (lv_at hl 2 rfl) ?_
      refine xgN_X2 hx hb hts hown hK hP3 0 rfl 2 (by decide) fk_X0_113 (v := .int (iI (m11 0))) rfl dX0_bookCells_15 ?_
      refine xi_c_ge (tgt := 49) hx hb ⟨by omega, by omega⟩ ⟨by omega, by omega⟩ dX0_bookCells_18 (by decide) (fun z2 => ?_) (fun z2 => ?_)
      · have hD : va_D (va_A (wF g a b d f1 ++ (wLs g b e1 e10 e11 ++ (wLs g d t1 t10 t11 ++ (wSs g sh m10 m11 m12)))) s.heap.size) (wLs g d (seaN e1 j) x9 y9 ++ (wF g a b d f1 ++ (wLs g b e1 e10 e11 ++ (wSs g sh m10 m11 (bkT e1 m12 0 r (((j) : Nat) : Int)))))) := D_perm (List.Perm.append_left _ (List.perm_append_comm_assoc _ _ _)) hD
        have hD : va_D (va_A (wF g a b d f1 ++ (wLs g b e1 e10 e11 ++ (wLs g d t1 t10 t11 ++ (wSs g sh m10 m11 m12)))) s.heap.size) (wF g a b d f1 ++ (wLs g d (seaN e1 j) x9 y9 ++ (wLs g b e1 e10 e11 ++ (wSs g sh m10 m11 (bkT e1 m12 0 r (((j) : Nat) : Int)))))) := D_perm (List.perm_append_comm_assoc _ _ _) hD
        have hD : va_D (va_A (wF g a b d f1 ++ (wLs g b e1 e10 e11 ++ (wLs g d t1 t10 t11 ++ (wSs g sh m10 m11 m12)))) s.heap.size) (wF g a b d f1 ++ (wLs g b e1 e10 e11 ++ (wLs g d (seaN e1 j) x9 y9 ++ (wSs g sh m10 m11 (bkT e1 m12 0 r (((j) : Nat) : Int)))))) := D_perm (List.Perm.append_left _ (List.perm_append_comm_assoc _ _ _)) hD
        have hP : va_P g.1 vwCl (wF g a b d f1 ++ (wLs g b e1 e10 e11 ++ (wLs g d (seaN e1 j) x9 y9 ++ (wSs g sh m10 m11 (bkT e1 m12 0 r (((j) : Nat) : Int)))))) H := va_P_app.mpr ⟨hP0, va_P_app.mpr ⟨hP1, va_P_app.mpr ⟨hP2, hP3⟩⟩⟩
        have he3 : (bkT e1 m12 0 r (((j) : Nat) : Int)) = (bkT e1 m12 0 r (m11 0)) := by rw [show ((j : Nat) : Int) = m11 0 by omega]
        have hP := Eq.mp (congrArg (fun z9 => va_P g.1 vwCl (wF g a b d f1 ++ (wLs g b e1 e10 e11 ++ (wLs g d (seaN e1 j) x9 y9 ++ (wSs g sh m10 m11 z9)))) H) he3) hP
        have hD := Eq.mp (congrArg (fun z9 => va_D (va_A (wF g a b d f1 ++ (wLs g b e1 e10 e11 ++ (wLs g d t1 t10 t11 ++ (wSs g sh m10 m11 m12)))) s.heap.size) (wF g a b d f1 ++ (wLs g b e1 e10 e11 ++ (wLs g d (seaN e1 j) x9 y9 ++ (wSs g sh m10 m11 z9))))) he3) hD
        obtain ⟨hP0, hPr0⟩ := va_P_app.mp hP
        obtain ⟨hP1, hPr1⟩ := va_P_app.mp hPr0
        obtain ⟨hP2, hP3⟩ := va_P_app.mp hPr1
        have hP : va_P g.1 vwCl (wF g a b d f1 ++ (wLs g b e1 e10 e11 ++ (wLs g d ((su (su (su (fun _ _ => 0) 201 (seaN e1 j)) 210 x9) 211 y9) 201) ((su (su (su (fun _ _ => 0) 201 (seaN e1 j)) 210 x9) 211 y9) 210) ((su (su (su (fun _ _ => 0) 201 (seaN e1 j)) 210 x9) 211 y9) 211) ++ (wSs g sh m10 m11 (bkT e1 m12 0 r (m11 0)))))) H := hP
        have hD : va_D (va_A (wF g a b d f1 ++ (wLs g b e1 e10 e11 ++ (wLs g d t1 t10 t11 ++ (wSs g sh m10 m11 m12)))) s.heap.size) (wF g a b d f1 ++ (wLs g b e1 e10 e11 ++ (wLs g d ((su (su (su (fun _ _ => 0) 201 (seaN e1 j)) 210 x9) 211 y9) 201) ((su (su (su (fun _ _ => 0) 201 (seaN e1 j)) 210 x9) 211 y9) 210) ((su (su (su (fun _ _ => 0) 201 (seaN e1 j)) 210 x9) 211 y9) 211) ++ (wSs g sh m10 m11 (bkT e1 m12 0 r (m11 0)))))) := hD
        exact W.vret hx hb hr (fun t ht hW => ⟨⟨(su (su (su (fun _ _ => 0) 201 (seaN e1 j)) 210 x9) 211 y9), rfl, trivial, by rw [ht]; exact hP, hD⟩, hS.F ht⟩) hS.2.2 dX0_bookCells_49
      · refine lv_aload_n hx hb dX0_bookCells_21 rfl (lv_at hl 2 rfl) ?_
        refine lv_iload_n hx hb dX0_bookCells_22 rfl (lv_at hl 0 rfl) ?_
        refine lv_aload_n hx hb dX0_bookCells_23 rfl (lv_at hl 1 rfl) ?_
        refine xg_X0 hx hb hts hown hK hP0 0 rfl 1 (by decide) fk_X0_12 (v := .ref (d 0)) rfl dX0_bookCells_24 ?_
        refine xgN_X1 hx hb hts hown hK hP2 0 rfl 8 (by decide) fk_X0_33 (v := .ref (d 6)) rfl dX0_bookCells_27 ?_
        refine lv_iload_n hx hb dX0_bookCells_30 rfl (lv_at hl 3 rfl) ?_
        refine xi_alz hx hb hK hP2 6 (s0 := seaN e1 j) rfl (i := r) ⟨by omega, by omega⟩ rfl dX0_bookCells_31 ?_
        refine xi_i2l hx hb ⟨by omega, by omega⟩ dX0_bookCells_32 ?_
        have hD : va_D (va_A (wF g a b d f1 ++ (wLs g b e1 e10 e11 ++ (wLs g d t1 t10 t11 ++ (wSs g sh m10 m11 m12)))) s.heap.size) (wLs g d (seaN e1 j) x9 y9 ++ (wLs g b e1 e10 e11 ++ (wSs g sh m10 m11 (bkT e1 m12 0 r (((j) : Nat) : Int)) ++ (wF g a b d f1)))) := D_perm (List.Perm.append_left _ (List.Perm.append_left _ (List.perm_append_comm))) hD
        have hD : va_D (va_A (wF g a b d f1 ++ (wLs g b e1 e10 e11 ++ (wLs g d t1 t10 t11 ++ (wSs g sh m10 m11 m12)))) s.heap.size) (wLs g d (seaN e1 j) x9 y9 ++ (wSs g sh m10 m11 (bkT e1 m12 0 r (((j) : Nat) : Int)) ++ (wLs g b e1 e10 e11 ++ (wF g a b d f1)))) := D_perm (List.Perm.append_left _ (List.perm_append_comm_assoc _ _ _)) hD
        have hD : va_D (va_A (wF g a b d f1 ++ (wLs g b e1 e10 e11 ++ (wLs g d t1 t10 t11 ++ (wSs g sh m10 m11 m12)))) s.heap.size) (wSs g sh m10 m11 (bkT e1 m12 0 r (((j) : Nat) : Int)) ++ (wLs g d (seaN e1 j) x9 y9 ++ (wLs g b e1 e10 e11 ++ (wF g a b d f1)))) := D_perm (List.perm_append_comm_assoc _ _ _) hD
        have hP : va_P g.1 vwCl (wSs g sh m10 m11 (bkT e1 m12 0 r (((j) : Nat) : Int)) ++ (wLs g d (seaN e1 j) x9 y9 ++ (wLs g b e1 e10 e11 ++ (wF g a b d f1)))) H := va_P_app.mpr ⟨hP3, va_P_app.mpr ⟨hP2, va_P_app.mpr ⟨hP1, hP0⟩⟩⟩
        refine xmF_v (rVN (rest := []) hx hb hml hown hts hK hl (c_X2_put0 l g sh m10 m11 (bkT e1 m12 0 r (((j) : Nat) : Int)) (j : Int) ((seaN e1 j) (61 + 5 * r + 1)) H.size (show IR (m10 0) from h5) (show 0 ≤ (j : Int) ∧ (j : Int) < 40 from by omega)) lk_X0_118 ⟨rfl, hP3, (va_D_app hD).1.weaken (fun _ _ _ _ => trivial)⟩ (va_recv hK.1 hP3 (ci := 2) (q0 := 0) rfl rfl) rfl rfl rfl (Rm.of rfl) rfl rfl dX0_bookCells_33) hP hD hS hA (fun _ H locs hw hP hD hS => ?_)
        have hP : va_P g.1 vwCl (wSs g sh m10 m11 (up (bkT e1 m12 0 r (((j) : Nat) : Int)) (0 + (j : Int)) (nrw (m10 0) ((seaN e1 j) (61 + 5 * r + 1)))) ++ (wLs g d (seaN e1 j) x9 y9 ++ (wLs g b e1 e10 e11 ++ (wF g a b d f1)))) H := hP
        have hD : va_D (va_A (wF g a b d f1 ++ (wLs g b e1 e10 e11 ++ (wLs g d t1 t10 t11 ++ (wSs g sh m10 m11 m12)))) s.heap.size) (wSs g sh m10 m11 (up (bkT e1 m12 0 r (((j) : Nat) : Int)) (0 + (j : Int)) (nrw (m10 0) ((seaN e1 j) (61 + 5 * r + 1)))) ++ (wLs g d (seaN e1 j) x9 y9 ++ (wLs g b e1 e10 e11 ++ (wF g a b d f1)))) := hD
        obtain ⟨hP3, hPr0⟩ := va_P_app.mp hP
        obtain ⟨hP2, hPr1⟩ := va_P_app.mp hPr0
        obtain ⟨hP1, hP0⟩ := va_P_app.mp hPr1
        refine lv_aload_n hx hb dX0_bookCells_36 rfl (lv_at hl 1 rfl) ?_
        refine xg_X0 hx hb hts hown hK hP0 0 rfl 1 (by decide) fk_X0_12 (v := .ref (d 0)) rfl dX0_bookCells_37 ?_
        have hD : va_D (va_A (wF g a b d f1 ++ (wLs g b e1 e10 e11 ++ (wLs g d t1 t10 t11 ++ (wSs g sh m10 m11 m12)))) s.heap.size) (wLs g d (seaN e1 j) x9 y9 ++ (wSs g sh m10 m11 (up (bkT e1 m12 0 r (((j) : Nat) : Int)) (0 + (j : Int)) (nrw (m10 0) ((seaN e1 j) (61 + 5 * r + 1)))) ++ (wLs g b e1 e10 e11 ++ (wF g a b d f1)))) := D_perm (List.perm_append_comm_assoc _ _ _) hD
        have hP : va_P g.1 vwCl (wLs g d (seaN e1 j) x9 y9 ++ (wSs g sh m10 m11 (up (bkT e1 m12 0 r (((j) : Nat) : Int)) (0 + (j : Int)) (nrw (m10 0) ((seaN e1 j) (61 + 5 * r + 1)))) ++ (wLs g b e1 e10 e11 ++ (wF g a b d f1)))) H := va_P_app.mpr ⟨hP2, va_P_app.mpr ⟨hP3, va_P_app.mpr ⟨hP1, hP0⟩⟩⟩
        refine xmF_v (rVN (rest := []) hx hb hml hown hts hK hl (c_X1_goSeason l g d (seaN e1 j) x9 y9 H.size (show InvK 0 (seaN e1 j) from hsn.1) (show (seaN e1 j) 0 < 20000 from by omega)) lk_X0_36 ⟨rfl, hP2, (va_D_app hD).1.weaken (fun _ _ _ _ => trivial)⟩ (va_recv hK.1 hP2 (ci := 1) (q0 := 0) rfl rfl) rfl rfl rfl (Rm.of rfl) rfl rfl dX0_bookCells_40) hP hD hS hA (fun u5 H locs hw hP hD hS => ?_)
        have hP : va_P g.1 vwCl (wLs g d (sea (seaN e1 j)) (u5 10) (u5 11) ++ (wSs g sh m10 m11 (up (bkT e1 m12 0 r (((j) : Nat) : Int)) (0 + (j : Int)) (nrw (m10 0) ((seaN e1 j) (61 + 5 * r + 1)))) ++ (wLs g b e1 e10 e11 ++ (wF g a b d f1)))) H := hP
        have hD : va_D (va_A (wF g a b d f1 ++ (wLs g b e1 e10 e11 ++ (wLs g d t1 t10 t11 ++ (wSs g sh m10 m11 m12)))) s.heap.size) (wLs g d (sea (seaN e1 j)) (u5 10) (u5 11) ++ (wSs g sh m10 m11 (up (bkT e1 m12 0 r (((j) : Nat) : Int)) (0 + (j : Int)) (nrw (m10 0) ((seaN e1 j) (61 + 5 * r + 1)))) ++ (wLs g b e1 e10 e11 ++ (wF g a b d f1)))) := hD
        obtain ⟨hP2, hPr0⟩ := va_P_app.mp hP
        obtain ⟨hP3, hPr1⟩ := va_P_app.mp hPr0
        obtain ⟨hP1, hP0⟩ := va_P_app.mp hPr1
        refine xi_inc (lv' := [(3, .int (iI ((j : Int) + 1))), (0, .ref (a 0)), (1, .ref (sh 0)), (2, .int (iI r))]) hx hb dX0_bookCells_43 hl (k := 0) rfl (by decide) rfl (fun ls hl => ?_)
        refine lv_goto (tgt := 13) hx hb dX0_bookCells_46 (by decide) ?_
        have hq6 : ((j : Int) + 1) = ((j + 1) : Int) := by omega
        have hl : lv_has ls 4 [(3, .int (iI ((j : Int) + 1))), (0, .ref (a 0)), (1, .ref (sh 0)), (2, .int (iI r))] := lv_sub hl [0, 1, 2, 3] rfl
        have hl := Eq.mp (congrArg (fun z9 => lv_has ls 4 [(3, .int (iI z9)), (0, .ref (a 0)), (1, .ref (sh 0)), (2, .int (iI r))]) hq6) hl
        have hq7 : (sea (seaN e1 j)) = (seaN e1 (j + 1)) := rfl
        have hP := Eq.mp (congrArg (fun z9 => va_P g.1 vwCl (wLs g d z9 (u5 10) (u5 11) ++ (wSs g sh m10 m11 (up (bkT e1 m12 0 r (((j) : Nat) : Int)) (0 + (j : Int)) (nrw (m10 0) ((seaN e1 j) (61 + 5 * r + 1)))) ++ (wLs g b e1 e10 e11 ++ (wF g a b d f1)))) H) hq7) hP
        have hD := Eq.mp (congrArg (fun z9 => va_D (va_A (wF g a b d f1 ++ (wLs g b e1 e10 e11 ++ (wLs g d t1 t10 t11 ++ (wSs g sh m10 m11 m12)))) s.heap.size) (wLs g d z9 (u5 10) (u5 11) ++ (wSs g sh m10 m11 (up (bkT e1 m12 0 r (((j) : Nat) : Int)) (0 + (j : Int)) (nrw (m10 0) ((seaN e1 j) (61 + 5 * r + 1)))) ++ (wLs g b e1 e10 e11 ++ (wF g a b d f1))))) hq7) hD
        obtain ⟨hP2, hPr0⟩ := va_P_app.mp hP
        obtain ⟨hP3, hPr1⟩ := va_P_app.mp hPr0
        obtain ⟨hP1, hP0⟩ := va_P_app.mp hPr1
        have hq8 : (up (bkT e1 m12 0 r (((j) : Nat) : Int)) (0 + (j : Int)) (nrw (m10 0) ((seaN e1 j) (61 + 5 * r + 1)))) = (bkT e1 m12 0 r ((((j + 1)) : Nat) : Int)) := by rw [← bkT_S e1 m12 0 r j]; congr 1; exact hnw _ (by omega) (by omega)
        have hP := Eq.mp (congrArg (fun z9 => va_P g.1 vwCl (wLs g d (seaN e1 (j + 1)) (u5 10) (u5 11) ++ (wSs g sh m10 m11 z9 ++ (wLs g b e1 e10 e11 ++ (wF g a b d f1)))) H) hq8) hP
        have hD := Eq.mp (congrArg (fun z9 => va_D (va_A (wF g a b d f1 ++ (wLs g b e1 e10 e11 ++ (wLs g d t1 t10 t11 ++ (wSs g sh m10 m11 m12)))) s.heap.size) (wLs g d (seaN e1 (j + 1)) (u5 10) (u5 11) ++ (wSs g sh m10 m11 z9 ++ (wLs g b e1 e10 e11 ++ (wF g a b d f1))))) hq8) hD
        obtain ⟨hP2, hPr0⟩ := va_P_app.mp hP
        obtain ⟨hP3, hPr1⟩ := va_P_app.mp hPr0
        obtain ⟨hP1, hP0⟩ := va_P_app.mp hPr1
        have hD : va_D (va_A (wF g a b d f1 ++ (wLs g b e1 e10 e11 ++ (wLs g d t1 t10 t11 ++ (wSs g sh m10 m11 m12)))) s.heap.size) (wLs g d (seaN e1 (j + 1)) (u5 10) (u5 11) ++ (wLs g b e1 e10 e11 ++ (wSs g sh m10 m11 (bkT e1 m12 0 r ((((j + 1)) : Nat) : Int)) ++ (wF g a b d f1)))) := D_perm (List.Perm.append_left _ (List.perm_append_comm_assoc _ _ _)) hD
        have hD : va_D (va_A (wF g a b d f1 ++ (wLs g b e1 e10 e11 ++ (wLs g d t1 t10 t11 ++ (wSs g sh m10 m11 m12)))) s.heap.size) (wLs g d (seaN e1 (j + 1)) (u5 10) (u5 11) ++ (wLs g b e1 e10 e11 ++ (wF g a b d f1 ++ (wSs g sh m10 m11 (bkT e1 m12 0 r ((((j + 1)) : Nat) : Int)))))) := D_perm (List.Perm.append_left _ (List.Perm.append_left _ (List.perm_append_comm))) hD
        have hP : va_P g.1 vwCl (wLs g d (seaN e1 (j + 1)) (u5 10) (u5 11) ++ (wLs g b e1 e10 e11 ++ (wF g a b d f1 ++ (wSs g sh m10 m11 (bkT e1 m12 0 r ((((j + 1)) : Nat) : Int)))))) H := va_P_app.mpr ⟨hP2, va_P_app.mpr ⟨hP1, va_P_app.mpr ⟨hP0, hP3⟩⟩⟩
        exact ih13 (j + 1) (u5 10) (u5 11) (by omega) (by omega) ls hl H locs hP hD hS
  have hq9 : 0 = (0 : Int) := rfl
  have hl : lv_has ls 4 [(3, .int (iI 0)), (0, .ref (a 0)), (1, .ref (sh 0)), (2, .int (iI r))] := lv_sub hl [0, 1, 2, 3] rfl
  have hl := Eq.mp (congrArg (fun z9 => lv_has ls 4 [(3, .int (iI z9)), (0, .ref (a 0)), (1, .ref (sh 0)), (2, .int (iI r))]) hq9) hl
  have hq10 : e1 = (seaN e1 0) := rfl
  have hP := Eq.mp (congrArg (fun z9 => va_P g.1 vwCl (wLs g d z9 t10 t11 ++ (wLs g b e1 e10 e11 ++ (wF g a b d f1 ++ (wSs g sh m10 m11 m12)))) H) hq10) hP
  have hD := Eq.mp (congrArg (fun z9 => va_D (va_A (wF g a b d f1 ++ (wLs g b e1 e10 e11 ++ (wLs g d t1 t10 t11 ++ (wSs g sh m10 m11 m12)))) s.heap.size) (wLs g d z9 t10 t11 ++ (wLs g b e1 e10 e11 ++ (wF g a b d f1 ++ (wSs g sh m10 m11 m12))))) hq10) hD
  obtain ⟨hP2, hPr0⟩ := va_P_app.mp hP
  obtain ⟨hP1, hPr1⟩ := va_P_app.mp hPr0
  obtain ⟨hP0, hP3⟩ := va_P_app.mp hPr1
  have hq11 : m12 = (bkT e1 m12 0 r (((0) : Nat) : Int)) := bkT_0 e1 m12 0 r
  have hP := Eq.mp (congrArg (fun z9 => va_P g.1 vwCl (wLs g d (seaN e1 0) t10 t11 ++ (wLs g b e1 e10 e11 ++ (wF g a b d f1 ++ (wSs g sh m10 m11 z9)))) H) hq11) hP
  have hD := Eq.mp (congrArg (fun z9 => va_D (va_A (wF g a b d f1 ++ (wLs g b e1 e10 e11 ++ (wLs g d t1 t10 t11 ++ (wSs g sh m10 m11 m12)))) s.heap.size) (wLs g d (seaN e1 0) t10 t11 ++ (wLs g b e1 e10 e11 ++ (wF g a b d f1 ++ (wSs g sh m10 m11 z9))))) hq11) hD
  obtain ⟨hP2, hPr0⟩ := va_P_app.mp hP
  obtain ⟨hP1, hPr1⟩ := va_P_app.mp hPr0
  obtain ⟨hP0, hP3⟩ := va_P_app.mp hPr1
  exact lp13 (40 + 1) 0 t10 t11 (by omega) (by omega) ls hl H locs hP hD hS
abbrev rm_X0_trialGoesAs : Room := { frames := 3, cells := 0, slots := 0, locals := 72 }
set_option maxRecDepth 100000 in
set_option maxHeartbeats 4000000 in
theorem c_X0_trialGoesAs0 (l : Launch) (g : Gd) (a : Nat → Nat) (f1 : Int → Int) (b : Nat → Nat) (e1 : Int → Int) (e10 : Int → Int) (e11 : Int → Int) (d : Nat → Nat) (t1 : Int → Int) (t10 : Int → Int) (t11 : Int → Int) (sh : Nat → Nat) (m10 : Int → Int) (m11 : Int → Int) (m12 : Int → Int) (r : Int) (sz : Nat) (h1 : InvK 0 t1) (h2 : t1 0 ≤ 9999) (h3 : 0 ≤ r ∧ r < t1 1) (h4 : 0 ≤ m11 0 ∧ m11 0 ≤ 40) (h5 : ∀ j, LR (m12 j)) : Met l yX0_trialGoesAs (wsOf yX0_trialGoesAs cX0_trialGoesAs 4 (some .boolean)) rm_X0_trialGoesAs (PX g (wP g (wF g a b d f1 ++ (wLs g b e1 e10 e11 ++ (wLs g d t1 t10 t11 ++ (wSs g sh m10 m11 m12)))) sz) [.ref (a 0), .ref (sh 0), .int (iI r)]) (QMi g (fun u9 : Nat → Int → Int => wF g a b d f1 ++ (wLs g b e1 e10 e11 ++ (wLs g d (u9 201) (u9 210) (u9 211) ++ (wSs g sh m10 m11 m12)))) (fun r9 _ => r9 = iI (bI (soT t1 m12 0 r (Int.toNat (m11 0)) = true))) (va_A (wF g a b d f1 ++ (wLs g b e1 e10 e11 ++ (wLs g d t1 t10 t11 ++ (wSs g sh m10 m11 m12)))) sz)) 0 0 (va_A (wF g a b d f1 ++ (wLs g b e1 e10 e11 ++ (wLs g d t1 t10 t11 ++ (wSs g sh m10 m11 m12)))) sz) := by
  refine me (g := g) (by decide) rfl ?_
  intro pq eq s mq below meth cq C hnm hB ls hl
  obtain ⟨hx, hb, hr, hml, hown, hts, hlocks, hK⟩ := C
  have hown : s.vm.findClass RX0 = some mq.cls := hown
  have hl : lv_has ls 4 [(0, .ref (a 0)), (1, .ref (sh 0)), (2, .int (iI r))] := hl
  obtain ⟨hsz, hP, hD0⟩ := hB
  subst hsz
  have hD := hD0.self (sz := s.heap.size)
  have hA : ∀ q : Nat, s.heap.size ≤ q → va_A (wF g a b d f1 ++ (wLs g b e1 e10 e11 ++ (wLs g d t1 t10 t11 ++ (wSs g sh m10 m11 m12)))) s.heap.size q := fun q h => Or.inr h
  have hS : va_S (va_A (wF g a b d f1 ++ (wLs g b e1 e10 e11 ++ (wLs g d t1 t10 t11 ++ (wSs g sh m10 m11 m12)))) s.heap.size) s.heap s.heap [] := va_S.rf
  obtain ⟨hP0, hPr0⟩ := va_P_app.mp hP
  obtain ⟨hP1, hPr1⟩ := va_P_app.mp hPr0
  obtain ⟨hP2, hP3⟩ := va_P_app.mp hPr1
  have hI := h1
  have hn := hI.num
  refine lv_iconst (v := iI (0)) hx hb dX0_trialGoesAs_0 (by decide) ?_
  refine lv_istore_n (lv' := [(3, .int (iI 0)), (0, .ref (a 0)), (1, .ref (sh 0)), (2, .int (iI r))]) hx hb dX0_trialGoesAs_1 rfl hl (by decide) rfl (fun ls hl => ?_)
  have lp2 : ∀ (n2 : Nat) (j : Nat) (x9 : Int → Int) (y9 : Int → Int), ((j : Int) ≤ m11 0) → (soT t1 m12 0 r j = true) → 40 - j < n2 → ∀ ls : Array Slot, lv_has ls 4 [(3, .int (iI (j : Int))), (0, .ref (a 0)), (1, .ref (sh 0)), (2, .int (iI r))] → ∀ (H : Heap) (locs : List Loc), va_P g.1 vwCl (wF g a b d f1 ++ (wLs g b e1 e10 e11 ++ (wLs g d (seaN t1 j) x9 y9 ++ (wSs g sh m10 m11 m12)))) H → va_D (va_A (wF g a b d f1 ++ (wLs g b e1 e10 e11 ++ (wLs g d t1 t10 t11 ++ (wSs g sh m10 m11 m12)))) s.heap.size) (wF g a b d f1 ++ (wLs g b e1 e10 e11 ++ (wLs g d (seaN t1 j) x9 y9 ++ (wSs g sh m10 m11 m12)))) → va_S (va_A (wF g a b d f1 ++ (wLs g b e1 e10 e11 ++ (wLs g d t1 t10 t11 ++ (wSs g sh m10 m11 m12)))) s.heap.size) s.heap H locs → W pq l eq rm_X0_trialGoesAs s mq [.ref (a 0), .ref (sh 0), .int (iI r)].toArray below meth cq H locs 0 0 (MQ below (QMi g (fun u9 : Nat → Int → Int => wF g a b d f1 ++ (wLs g b e1 e10 e11 ++ (wLs g d (u9 201) (u9 210) (u9 211) ++ (wSs g sh m10 m11 m12)))) (fun r9 _ => r9 = iI (bI (soT t1 m12 0 r (Int.toNat (m11 0)) = true))) (va_A (wF g a b d f1 ++ (wLs g b e1 e10 e11 ++ (wLs g d t1 t10 t11 ++ (wSs g sh m10 m11 m12)))) s.heap.size)) [.ref (a 0), .ref (sh 0), .int (iI r)].toArray s 0 0 (va_A (wF g a b d f1 ++ (wLs g b e1 e10 e11 ++ (wLs g d t1 t10 t11 ++ (wSs g sh m10 m11 m12)))) s.heap.size)) (F0 mq 2 ls []) := by
    intro n2
    induction n2 with
    | zero => intro j x9 y9 i2_1 i2_2 hm; exact absurd hm (Nat.not_lt_zero _)
    | succ n2 ih2 =>
      intro j x9 y9 i2_1 i2_2 hm2 ls hl H locs hP hD hS
      have hsn := seaN_inv hI j (by omega)
      have hs0 := hsn.2.1
      have hs1 := hsn.2.2 1 (by omega) (by omega)
      have hcr := hsn.1.ran r (by omega) (by omega)
      obtain ⟨hP0, hPr0⟩ := va_P_app.mp hP
      obtain ⟨hP1, hPr1⟩ := va_P_app.mp hPr0
      obtain ⟨hP2, hP3⟩ := va_P_app.mp hPr1
      refine lv_iload_n hx hb dX0_trialGoesAs_2 rfl (lv_at hl 0 rfl) ?_
      refine lv_aload_n hx hb dX0_trialGoesAs_3 rfl (lv_at hl 2 rfl) ?_
      refine xgN_X2 hx hb hts hown hK hP3 0 rfl 2 (by decide) fk_X0_113 (v := .int (iI (m11 0))) rfl dX0_trialGoesAs_4 ?_
      refine xi_c_ge (tgt := 45) hx hb ⟨by omega, by omega⟩ ⟨by omega, by omega⟩ dX0_trialGoesAs_7 (by decide) (fun z1 => ?_) (fun z1 => ?_)
      · refine lv_iconst (v := iI (1)) hx hb dX0_trialGoesAs_45 (by decide) ?_
        have hP : va_P g.1 vwCl (wF g a b d f1 ++ (wLs g b e1 e10 e11 ++ (wLs g d ((su (su (su (fun _ _ => 0) 201 (seaN t1 j)) 210 x9) 211 y9) 201) ((su (su (su (fun _ _ => 0) 201 (seaN t1 j)) 210 x9) 211 y9) 210) ((su (su (su (fun _ _ => 0) 201 (seaN t1 j)) 210 x9) 211 y9) 211) ++ (wSs g sh m10 m11 m12)))) H := hP
        have hD : va_D (va_A (wF g a b d f1 ++ (wLs g b e1 e10 e11 ++ (wLs g d t1 t10 t11 ++ (wSs g sh m10 m11 m12)))) s.heap.size) (wF g a b d f1 ++ (wLs g b e1 e10 e11 ++ (wLs g d ((su (su (su (fun _ _ => 0) 201 (seaN t1 j)) 210 x9) 211 y9) 201) ((su (su (su (fun _ _ => 0) 201 (seaN t1 j)) 210 x9) 211 y9) 210) ((su (su (su (fun _ _ => 0) 201 (seaN t1 j)) 210 x9) 211 y9) 211) ++ (wSs g sh m10 m11 m12)))) := hD
        exact W.zret hx hb hr (by decide) (fun t ht hW => ⟨⟨_, (su (su (su (fun _ _ => 0) 201 (seaN t1 j)) 210 x9) 211 y9), rfl, by rw [bI_t (by rw [show (m11 0).toNat = j by omega]; exact i2_2)], by rw [ht]; exact hP, hD⟩, hS.F ht⟩) hS.2.2 dX0_trialGoesAs_46
      · refine lv_aload_n hx hb dX0_trialGoesAs_10 rfl (lv_at hl 2 rfl) ?_
        refine xgN_X2 hx hb hts hown hK hP3 0 rfl 0 (by decide) fk_X0_126 (v := .ref (sh 1)) rfl dX0_trialGoesAs_11 ?_
        refine lv_iload_n hx hb dX0_trialGoesAs_14 rfl (lv_at hl 0 rfl) ?_
        refine xl_alq hx hb hK hP3 1 (s0 := m12) rfl (i := (j : Int)) ⟨by omega, by omega⟩ rfl dX0_trialGoesAs_15 ?_
        refine lv_aload_n hx hb dX0_trialGoesAs_16 rfl (lv_at hl 1 rfl) ?_
        refine xg_X0 hx hb hts hown hK hP0 0 rfl 1 (by decide) fk_X0_12 (v := .ref (d 0)) rfl dX0_trialGoesAs_17 ?_
        refine xgN_X1 hx hb hts hown hK hP2 0 rfl 8 (by decide) fk_X0_33 (v := .ref (d 6)) rfl dX0_trialGoesAs_20 ?_
        refine lv_iload_n hx hb dX0_trialGoesAs_23 rfl (lv_at hl 3 rfl) ?_
        refine xi_alz hx hb hK hP2 6 (s0 := seaN t1 j) rfl (i := r) ⟨by omega, by omega⟩ rfl dX0_trialGoesAs_24 ?_
        refine xi_i2l hx hb ⟨by omega, by omega⟩ dX0_trialGoesAs_25 ?_
        refine xl_c_eq (tgt := 32) hx hb (h5 _) ⟨by omega, by omega⟩ dX0_trialGoesAs_26 dX0_trialGoesAs_27 (by decide) (fun z2 => ?_) (fun z2 => ?_)
        · refine lv_aload_n hx hb dX0_trialGoesAs_32 rfl (lv_at hl 1 rfl) ?_
          refine xg_X0 hx hb hts hown hK hP0 0 rfl 1 (by decide) fk_X0_12 (v := .ref (d 0)) rfl dX0_trialGoesAs_33 ?_
          have hD : va_D (va_A (wF g a b d f1 ++ (wLs g b e1 e10 e11 ++ (wLs g d t1 t10 t11 ++ (wSs g sh m10 m11 m12)))) s.heap.size) (wF g a b d f1 ++ (wLs g d (seaN t1 j) x9 y9 ++ (wLs g b e1 e10 e11 ++ (wSs g sh m10 m11 m12)))) := D_perm (List.Perm.append_left _ (List.perm_append_comm_assoc _ _ _)) hD
          have hD : va_D (va_A (wF g a b d f1 ++ (wLs g b e1 e10 e11 ++ (wLs g d t1 t10 t11 ++ (wSs g sh m10 m11 m12)))) s.heap.size) (wLs g d (seaN t1 j) x9 y9 ++ (wF g a b d f1 ++ (wLs g b e1 e10 e11 ++ (wSs g sh m10 m11 m12)))) := D_perm (List.perm_append_comm_assoc _ _ _) hD
          have hP : va_P g.1 vwCl (wLs g d (seaN t1 j) x9 y9 ++ (wF g a b d f1 ++ (wLs g b e1 e10 e11 ++ (wSs g sh m10 m11 m12)))) H := va_P_app.mpr ⟨hP2, va_P_app.mpr ⟨hP0, va_P_app.mpr ⟨hP1, hP3⟩⟩⟩
          refine xmF_v (rVN (rest := []) hx hb hml hown hts hK hl (c_X1_goSeason l g d (seaN t1 j) x9 y9 H.size (show InvK 0 (seaN t1 j) from hsn.1) (show (seaN t1 j) 0 < 20000 from by omega)) lk_X0_36 ⟨rfl, hP2, (va_D_app hD).1.weaken (fun _ _ _ _ => trivial)⟩ (va_recv hK.1 hP2 (ci := 1) (q0 := 0) rfl rfl) rfl rfl rfl (Rm.of rfl) rfl rfl dX0_trialGoesAs_36) hP hD hS hA (fun u3 H locs hw hP hD hS => ?_)
          have hP : va_P g.1 vwCl (wLs g d (sea (seaN t1 j)) (u3 10) (u3 11) ++ (wF g a b d f1 ++ (wLs g b e1 e10 e11 ++ (wSs g sh m10 m11 m12)))) H := hP
          have hD : va_D (va_A (wF g a b d f1 ++ (wLs g b e1 e10 e11 ++ (wLs g d t1 t10 t11 ++ (wSs g sh m10 m11 m12)))) s.heap.size) (wLs g d (sea (seaN t1 j)) (u3 10) (u3 11) ++ (wF g a b d f1 ++ (wLs g b e1 e10 e11 ++ (wSs g sh m10 m11 m12)))) := hD
          obtain ⟨hP2, hPr0⟩ := va_P_app.mp hP
          obtain ⟨hP0, hPr1⟩ := va_P_app.mp hPr0
          obtain ⟨hP1, hP3⟩ := va_P_app.mp hPr1
          refine xi_inc (lv' := [(3, .int (iI ((j : Int) + 1))), (0, .ref (a 0)), (1, .ref (sh 0)), (2, .int (iI r))]) hx hb dX0_trialGoesAs_39 hl (k := 0) rfl (by decide) rfl (fun ls hl => ?_)
          refine lv_goto (tgt := 2) hx hb dX0_trialGoesAs_42 (by decide) ?_
          have hq4 : ((j : Int) + 1) = ((j + 1) : Int) := by omega
          have hl : lv_has ls 4 [(3, .int (iI ((j : Int) + 1))), (0, .ref (a 0)), (1, .ref (sh 0)), (2, .int (iI r))] := lv_sub hl [0, 1, 2, 3] rfl
          have hl := Eq.mp (congrArg (fun z9 => lv_has ls 4 [(3, .int (iI z9)), (0, .ref (a 0)), (1, .ref (sh 0)), (2, .int (iI r))]) hq4) hl
          have hq5 : (sea (seaN t1 j)) = (seaN t1 (j + 1)) := rfl
          have hP := Eq.mp (congrArg (fun z9 => va_P g.1 vwCl (wLs g d z9 (u3 10) (u3 11) ++ (wF g a b d f1 ++ (wLs g b e1 e10 e11 ++ (wSs g sh m10 m11 m12)))) H) hq5) hP
          have hD := Eq.mp (congrArg (fun z9 => va_D (va_A (wF g a b d f1 ++ (wLs g b e1 e10 e11 ++ (wLs g d t1 t10 t11 ++ (wSs g sh m10 m11 m12)))) s.heap.size) (wLs g d z9 (u3 10) (u3 11) ++ (wF g a b d f1 ++ (wLs g b e1 e10 e11 ++ (wSs g sh m10 m11 m12))))) hq5) hD
          obtain ⟨hP2, hPr0⟩ := va_P_app.mp hP
          obtain ⟨hP0, hPr1⟩ := va_P_app.mp hPr0
          obtain ⟨hP1, hP3⟩ := va_P_app.mp hPr1
          have hD : va_D (va_A (wF g a b d f1 ++ (wLs g b e1 e10 e11 ++ (wLs g d t1 t10 t11 ++ (wSs g sh m10 m11 m12)))) s.heap.size) (wF g a b d f1 ++ (wLs g d (seaN t1 (j + 1)) (u3 10) (u3 11) ++ (wLs g b e1 e10 e11 ++ (wSs g sh m10 m11 m12)))) := D_perm (List.perm_append_comm_assoc _ _ _) hD
          have hD : va_D (va_A (wF g a b d f1 ++ (wLs g b e1 e10 e11 ++ (wLs g d t1 t10 t11 ++ (wSs g sh m10 m11 m12)))) s.heap.size) (wF g a b d f1 ++ (wLs g b e1 e10 e11 ++ (wLs g d (seaN t1 (j + 1)) (u3 10) (u3 11) ++ (wSs g sh m10 m11 m12)))) := D_perm (List.Perm.append_left _ (List.perm_append_comm_assoc _ _ _)) hD
          have hP : va_P g.1 vwCl (wF g a b d f1 ++ (wLs g b e1 e10 e11 ++ (wLs g d (seaN t1 (j + 1)) (u3 10) (u3 11) ++ (wSs g sh m10 m11 m12)))) H := va_P_app.mpr ⟨hP0, va_P_app.mpr ⟨hP1, va_P_app.mpr ⟨hP2, hP3⟩⟩⟩
          exact ih2 (j + 1) (u3 10) (u3 11) (by omega) (by simp only [soT, Bool.and_eq_true, decide_eq_true_eq]; exact ⟨i2_2, by omega⟩) (by omega) ls hl H locs hP hD hS
        · refine lv_iconst (v := iI (0)) hx hb dX0_trialGoesAs_30 (by decide) ?_
          have hP : va_P g.1 vwCl (wF g a b d f1 ++ (wLs g b e1 e10 e11 ++ (wLs g d ((su (su (su (fun _ _ => 0) 201 (seaN t1 j)) 210 x9) 211 y9) 201) ((su (su (su (fun _ _ => 0) 201 (seaN t1 j)) 210 x9) 211 y9) 210) ((su (su (su (fun _ _ => 0) 201 (seaN t1 j)) 210 x9) 211 y9) 211) ++ (wSs g sh m10 m11 m12)))) H := hP
          have hD : va_D (va_A (wF g a b d f1 ++ (wLs g b e1 e10 e11 ++ (wLs g d t1 t10 t11 ++ (wSs g sh m10 m11 m12)))) s.heap.size) (wF g a b d f1 ++ (wLs g b e1 e10 e11 ++ (wLs g d ((su (su (su (fun _ _ => 0) 201 (seaN t1 j)) 210 x9) 211 y9) 201) ((su (su (su (fun _ _ => 0) 201 (seaN t1 j)) 210 x9) 211 y9) 210) ((su (su (su (fun _ _ => 0) 201 (seaN t1 j)) 210 x9) 211 y9) 211) ++ (wSs g sh m10 m11 m12)))) := hD
          exact W.zret hx hb hr (by decide) (fun t ht hW => ⟨⟨_, (su (su (su (fun _ _ => 0) 201 (seaN t1 j)) 210 x9) 211 y9), rfl, by rw [bI_f (fun z => by have := soT_le z (show j + 1 ≤ _ by omega); simp only [soT, Bool.and_eq_true, decide_eq_true_eq] at this; omega)], by rw [ht]; exact hP, hD⟩, hS.F ht⟩) hS.2.2 dX0_trialGoesAs_31
  have hq6 : 0 = (0 : Int) := rfl
  have hl : lv_has ls 4 [(3, .int (iI 0)), (0, .ref (a 0)), (1, .ref (sh 0)), (2, .int (iI r))] := lv_sub hl [0, 1, 2, 3] rfl
  have hl := Eq.mp (congrArg (fun z9 => lv_has ls 4 [(3, .int (iI z9)), (0, .ref (a 0)), (1, .ref (sh 0)), (2, .int (iI r))]) hq6) hl
  have hq7 : t1 = (seaN t1 0) := rfl
  have hP := Eq.mp (congrArg (fun z9 => va_P g.1 vwCl (wF g a b d f1 ++ (wLs g b e1 e10 e11 ++ (wLs g d z9 t10 t11 ++ (wSs g sh m10 m11 m12)))) s.heap) hq7) hP
  have hD := Eq.mp (congrArg (fun z9 => va_D (va_A (wF g a b d f1 ++ (wLs g b e1 e10 e11 ++ (wLs g d t1 t10 t11 ++ (wSs g sh m10 m11 m12)))) s.heap.size) (wF g a b d f1 ++ (wLs g b e1 e10 e11 ++ (wLs g d z9 t10 t11 ++ (wSs g sh m10 m11 m12))))) hq7) hD
  obtain ⟨hP0, hPr0⟩ := va_P_app.mp hP
  obtain ⟨hP1, hPr1⟩ := va_P_app.mp hPr0
  obtain ⟨hP2, hP3⟩ := va_P_app.mp hPr1
  exact lp2 (40 + 1) 0 t10 t11 (by omega) rfl (by omega) ls hl s.heap [] hP hD hS
abbrev rm_X0_matchingPairs : Room := { frames := 4, cells := 0, slots := 0, locals := 101 }
set_option maxRecDepth 100000 in
set_option maxHeartbeats 4000000 in
theorem c_X0_matchingPairs0 (l : Launch) (g : Gd) (a : Nat → Nat) (f1 : Int → Int) (b : Nat → Nat) (e1 : Int → Int) (e10 : Int → Int) (e11 : Int → Int) (d : Nat → Nat) (t1 : Int → Int) (t10 : Int → Int) (t11 : Int → Int) (sh : Nat → Nat) (m10 : Int → Int) (m11 : Int → Int) (m12 : Int → Int) (r : Int) (sz : Nat) (h1 : InvK 0 e1) (h2 : e1 0 ≤ 9999) (h3 : 0 ≤ r ∧ r < e1 1) (h4 : 0 ≤ m11 0 ∧ m11 0 ≤ 40) (h5 : ∀ j, LR (m12 j)) : Met l yX0_matchingPairs (wsOf yX0_matchingPairs cX0_matchingPairs 6 (some .int)) rm_X0_matchingPairs (PX g (wP g (wF g a b d f1 ++ (wLs g b e1 e10 e11 ++ (wLs g d t1 t10 t11 ++ (wSs g sh m10 m11 m12)))) sz) [.ref (a 0), .ref (sh 0), .int (iI r)]) (QMi g (fun u9 : Nat → Int → Int => wF g a b d f1 ++ (wLs g b e1 e10 e11 ++ (wLs g d (u9 201) (u9 210) (u9 211) ++ (wSs g sh m10 m11 m12)))) (fun r9 _ => r9 = iI (rdO (rdV e1 m12 0 r (m11 0)) 10)) (va_A (wF g a b d f1 ++ (wLs g b e1 e10 e11 ++ (wLs g d t1 t10 t11 ++ (wSs g sh m10 m11 m12)))) sz)) 0 0 (va_A (wF g a b d f1 ++ (wLs g b e1 e10 e11 ++ (wLs g d t1 t10 t11 ++ (wSs g sh m10 m11 m12)))) sz) := by
  refine me (g := g) (by decide) rfl ?_
  intro pq eq s mq below meth cq C hnm hB ls hl
  obtain ⟨hx, hb, hr, hml, hown, hts, hlocks, hK⟩ := C
  have hown : s.vm.findClass RX0 = some mq.cls := hown
  have hl : lv_has ls 6 [(0, .ref (a 0)), (1, .ref (sh 0)), (2, .int (iI r))] := hl
  obtain ⟨hsz, hP, hD0⟩ := hB
  subst hsz
  have hD := hD0.self (sz := s.heap.size)
  have hA : ∀ q : Nat, s.heap.size ≤ q → va_A (wF g a b d f1 ++ (wLs g b e1 e10 e11 ++ (wLs g d t1 t10 t11 ++ (wSs g sh m10 m11 m12)))) s.heap.size q := fun q h => Or.inr h
  have hS : va_S (va_A (wF g a b d f1 ++ (wLs g b e1 e10 e11 ++ (wLs g d t1 t10 t11 ++ (wSs g sh m10 m11 m12)))) s.heap.size) s.heap s.heap [] := va_S.rf
  obtain ⟨hP0, hPr0⟩ := va_P_app.mp hP
  obtain ⟨hP1, hPr1⟩ := va_P_app.mp hPr0
  obtain ⟨hP2, hP3⟩ := va_P_app.mp hPr1
  have hI := h1
  have hI8 : Inv e1 := h1.mono (by omega)
  have hn := hI.num
  have hs := hI.sea
  have hv := hI.vil
  refine lv_iconst (v := iI (0)) hx hb dX0_matchingPairs_0 (by decide) ?_
  refine lv_istore_n (lv' := [(3, .int (iI 0)), (0, .ref (a 0)), (1, .ref (sh 0)), (2, .int (iI r))]) hx hb dX0_matchingPairs_1 rfl hl (by decide) rfl (fun ls hl => ?_)
  refine lv_iconst (v := iI (0)) hx hb dX0_matchingPairs_2 (by decide) ?_
  refine lv_istore (lv' := [(4, .int (iI 0)), (3, .int (iI 0)), (0, .ref (a 0)), (1, .ref (sh 0)), (2, .int (iI r))]) hx hb dX0_matchingPairs_3 hl (by decide) rfl (fun ls hl => ?_)
  have lp5 : ∀ (n5 : Nat) (h : Nat) (v9 : Int → Int) (x9 : Int → Int) (y9 : Int → Int), (h ≤ 10) → 10 - h < n5 → ∀ ls : Array Slot, lv_has ls 6 [(4, .int (iI (h : Int))), (3, .int (iI (rdO (rdV e1 m12 0 r (m11 0)) h))), (0, .ref (a 0)), (1, .ref (sh 0)), (2, .int (iI r))] → ∀ (H : Heap) (locs : List Loc), va_P g.1 vwCl (wF g a b d f1 ++ (wLs g b e1 e10 e11 ++ (wLs g d v9 x9 y9 ++ (wSs g sh m10 m11 m12)))) H → va_D (va_A (wF g a b d f1 ++ (wLs g b e1 e10 e11 ++ (wLs g d t1 t10 t11 ++ (wSs g sh m10 m11 m12)))) s.heap.size) (wF g a b d f1 ++ (wLs g b e1 e10 e11 ++ (wLs g d v9 x9 y9 ++ (wSs g sh m10 m11 m12)))) → va_S (va_A (wF g a b d f1 ++ (wLs g b e1 e10 e11 ++ (wLs g d t1 t10 t11 ++ (wSs g sh m10 m11 m12)))) s.heap.size) s.heap H locs → W pq l eq rm_X0_matchingPairs s mq [.ref (a 0), .ref (sh 0), .int (iI r)].toArray below meth cq H locs 0 0 (MQ below (QMi g (fun u9 : Nat → Int → Int => wF g a b d f1 ++ (wLs g b e1 e10 e11 ++ (wLs g d (u9 201) (u9 210) (u9 211) ++ (wSs g sh m10 m11 m12)))) (fun r9 _ => r9 = iI (rdO (rdV e1 m12 0 r (m11 0)) 10)) (va_A (wF g a b d f1 ++ (wLs g b e1 e10 e11 ++ (wLs g d t1 t10 t11 ++ (wSs g sh m10 m11 m12)))) s.heap.size)) [.ref (a 0), .ref (sh 0), .int (iI r)].toArray s 0 0 (va_A (wF g a b d f1 ++ (wLs g b e1 e10 e11 ++ (wLs g d t1 t10 t11 ++ (wSs g sh m10 m11 m12)))) s.heap.size)) (F0 mq 5 ls []) := by
    intro n5
    induction n5 with
    | zero => intro h v9 x9 y9 i5_1 hm; exact absurd hm (Nat.not_lt_zero _)
    | succ n5 ih5 =>
      intro h v9 x9 y9 i5_1 hm5 ls hl H locs hP hD hS
      obtain ⟨hP0, hPr0⟩ := va_P_app.mp hP
      obtain ⟨hP1, hPr1⟩ := va_P_app.mp hPr0
      obtain ⟨hP2, hP3⟩ := va_P_app.mp hPr1
      refine lv_iload hx hb dX0_matchingPairs_5 (lv_at hl 0 rfl) ?_
      refine lv_bipush (v := iI (9)) hx hb dX0_matchingPairs_7 (by decide) ?_
      refine xi_c_gt (tgt := 80) hx hb ⟨by omega, by omega⟩ ⟨by decide, by decide⟩ dX0_matchingPairs_9 (by decide) (fun z1 => ?_) (fun z1 => ?_)
      · refine lv_iload_n hx hb dX0_matchingPairs_80 rfl (lv_at hl 1 rfl) ?_
        have hP : va_P g.1 vwCl (wF g a b d f1 ++ (wLs g b e1 e10 e11 ++ (wLs g d ((su (su (su (fun _ _ => 0) 201 v9) 210 x9) 211 y9) 201) ((su (su (su (fun _ _ => 0) 201 v9) 210 x9) 211 y9) 210) ((su (su (su (fun _ _ => 0) 201 v9) 210 x9) 211 y9) 211) ++ (wSs g sh m10 m11 m12)))) H := hP
        have hD : va_D (va_A (wF g a b d f1 ++ (wLs g b e1 e10 e11 ++ (wLs g d t1 t10 t11 ++ (wSs g sh m10 m11 m12)))) s.heap.size) (wF g a b d f1 ++ (wLs g b e1 e10 e11 ++ (wLs g d ((su (su (su (fun _ _ => 0) 201 v9) 210 x9) 211 y9) 201) ((su (su (su (fun _ _ => 0) 201 v9) 210 x9) 211 y9) 210) ((su (su (su (fun _ _ => 0) 201 v9) 210 x9) 211 y9) 211) ++ (wSs g sh m10 m11 m12)))) := hD
        exact W.iret hx hb hr (fun t ht hW => ⟨⟨_, (su (su (su (fun _ _ => 0) 201 v9) 210 x9) 211 y9), rfl, congrArg iI (by rw [show h = 10 by omega]), by rw [ht]; exact hP, hD⟩, hS.F ht⟩) hS.2.2 dX0_matchingPairs_81
      · refine lv_bipush (v := iI (-9)) hx hb dX0_matchingPairs_12 (by decide) ?_
        refine lv_istore (lv' := [(5, .int (iI (-9))), (4, .int (iI (h : Int))), (3, .int (iI (rdO (rdV e1 m12 0 r (m11 0)) h))), (0, .ref (a 0)), (1, .ref (sh 0)), (2, .int (iI r))]) hx hb dX0_matchingPairs_14 hl (by decide) rfl (fun ls hl => ?_)
        have lp16 : ∀ (n16 : Nat) (w : Nat) (v8 : Int → Int) (x8 : Int → Int) (y8 : Int → Int), (w ≤ 19) → 19 - w < n16 → ∀ ls : Array Slot, lv_has ls 6 [(5, .int (iI ((w : Int) - 9))), (4, .int (iI (h : Int))), (3, .int (iI (rdI (rdV e1 m12 0 r (m11 0)) h (rdO (rdV e1 m12 0 r (m11 0)) h) w))), (0, .ref (a 0)), (1, .ref (sh 0)), (2, .int (iI r))] → ∀ (H : Heap) (locs : List Loc), va_P g.1 vwCl (wF g a b d f1 ++ (wLs g b e1 e10 e11 ++ (wLs g d v8 x8 y8 ++ (wSs g sh m10 m11 m12)))) H → va_D (va_A (wF g a b d f1 ++ (wLs g b e1 e10 e11 ++ (wLs g d t1 t10 t11 ++ (wSs g sh m10 m11 m12)))) s.heap.size) (wF g a b d f1 ++ (wLs g b e1 e10 e11 ++ (wLs g d v8 x8 y8 ++ (wSs g sh m10 m11 m12)))) → va_S (va_A (wF g a b d f1 ++ (wLs g b e1 e10 e11 ++ (wLs g d t1 t10 t11 ++ (wSs g sh m10 m11 m12)))) s.heap.size) s.heap H locs → W pq l eq rm_X0_matchingPairs s mq [.ref (a 0), .ref (sh 0), .int (iI r)].toArray below meth cq H locs 0 0 (MQ below (QMi g (fun u9 : Nat → Int → Int => wF g a b d f1 ++ (wLs g b e1 e10 e11 ++ (wLs g d (u9 201) (u9 210) (u9 211) ++ (wSs g sh m10 m11 m12)))) (fun r9 _ => r9 = iI (rdO (rdV e1 m12 0 r (m11 0)) 10)) (va_A (wF g a b d f1 ++ (wLs g b e1 e10 e11 ++ (wLs g d t1 t10 t11 ++ (wSs g sh m10 m11 m12)))) s.heap.size)) [.ref (a 0), .ref (sh 0), .int (iI r)].toArray s 0 0 (va_A (wF g a b d f1 ++ (wLs g b e1 e10 e11 ++ (wLs g d t1 t10 t11 ++ (wSs g sh m10 m11 m12)))) s.heap.size)) (F0 mq 16 ls []) := by
          intro n16
          induction n16 with
          | zero => intro w v8 x8 y8 i16_1 hm; exact absurd hm (Nat.not_lt_zero _)
          | succ n16 ih16 =>
            intro w v8 x8 y8 i16_1 hm16 ls hl H locs hP hD hS
            obtain ⟨hP0, hPr0⟩ := va_P_app.mp hP
            obtain ⟨hP1, hPr1⟩ := va_P_app.mp hPr0
            obtain ⟨hP2, hP3⟩ := va_P_app.mp hPr1
            refine lv_iload hx hb dX0_matchingPairs_16 (lv_at hl 0 rfl) ?_
            refine lv_bipush (v := iI (9)) hx hb dX0_matchingPairs_18 (by decide) ?_
            refine xi_c_gt (tgt := 74) hx hb ⟨by omega, by omega⟩ ⟨by decide, by decide⟩ dX0_matchingPairs_20 (by decide) (fun z2 => ?_) (fun z2 => ?_)
            · refine xi_inc (lv' := [(4, .int (iI ((h : Int) + 1))), (5, .int (iI ((w : Int) - 9))), (3, .int (iI (rdI (rdV e1 m12 0 r (m11 0)) h (rdO (rdV e1 m12 0 r (m11 0)) h) w))), (0, .ref (a 0)), (1, .ref (sh 0)), (2, .int (iI r))]) hx hb dX0_matchingPairs_74 hl (k := 1) rfl (by decide) rfl (fun ls hl => ?_)
              refine lv_goto (tgt := 5) hx hb dX0_matchingPairs_77 (by decide) ?_
              have hq3 : ((h : Int) + 1) = ((h + 1) : Int) := by omega
              have hq4 : (rdI (rdV e1 m12 0 r (m11 0)) h (rdO (rdV e1 m12 0 r (m11 0)) h) w) = (rdO (rdV e1 m12 0 r (m11 0)) (h + 1)) := by show _ = rdI (rdV e1 m12 0 r (m11 0)) h (rdO (rdV e1 m12 0 r (m11 0)) h) 19; rw [show w = 19 by omega]
              have hl : lv_has ls 6 [(4, .int (iI ((h : Int) + 1))), (3, .int (iI (rdI (rdV e1 m12 0 r (m11 0)) h (rdO (rdV e1 m12 0 r (m11 0)) h) w))), (0, .ref (a 0)), (1, .ref (sh 0)), (2, .int (iI r))] := lv_sub hl [0, 2, 3, 4, 5] rfl
              have hl := Eq.mp (congrArg (fun z9 => lv_has ls 6 [(4, .int (iI z9)), (3, .int (iI (rdI (rdV e1 m12 0 r (m11 0)) h (rdO (rdV e1 m12 0 r (m11 0)) h) w))), (0, .ref (a 0)), (1, .ref (sh 0)), (2, .int (iI r))]) hq3) hl
              have hl := Eq.mp (congrArg (fun z9 => lv_has ls 6 [(4, .int (iI ((h + 1) : Int))), (3, .int (iI z9)), (0, .ref (a 0)), (1, .ref (sh 0)), (2, .int (iI r))]) hq4) hl
              exact ih5 (h + 1) v8 x8 y8 (by omega) (by omega) ls hl H locs hP hD hS
            · have hIu : InvK 0 (up (up e1 (61 + 5 * r + 2) (h : Int)) (3 + 0) ((w : Int) - 9)) := (hI.oth (k2 := 0) (r := r) (w := 2) (v := (h : Int)) (by omega) (by omega) (by omega) (by omega) (by omega) ⟨by omega, by omega, by omega, by omega⟩).wgt (w := 0) (v := (w : Int) - 9) (by omega) (by omega) (by omega)
              refine lv_aload_n hx hb dX0_matchingPairs_23 rfl (lv_at hl 3 rfl) ?_
              refine xg_X0 hx hb hts hown hK hP0 0 rfl 1 (by decide) fk_X0_12 (v := .ref (d 0)) rfl dX0_matchingPairs_24 ?_
              refine lv_aload_n hx hb dX0_matchingPairs_27 rfl (lv_at hl 3 rfl) ?_
              refine xg_X0 hx hb hts hown hK hP0 0 rfl 0 (by decide) fk_X0_22 (v := .ref (b 0)) rfl dX0_matchingPairs_28 ?_
              have hD : va_D (va_A (wF g a b d f1 ++ (wLs g b e1 e10 e11 ++ (wLs g d t1 t10 t11 ++ (wSs g sh m10 m11 m12)))) s.heap.size) (wF g a b d f1 ++ (wLs g d v8 x8 y8 ++ (wLs g b e1 e10 e11 ++ (wSs g sh m10 m11 m12)))) := D_perm (List.Perm.append_left _ (List.perm_append_comm_assoc _ _ _)) hD
              have hD : va_D (va_A (wF g a b d f1 ++ (wLs g b e1 e10 e11 ++ (wLs g d t1 t10 t11 ++ (wSs g sh m10 m11 m12)))) s.heap.size) (wLs g d v8 x8 y8 ++ (wF g a b d f1 ++ (wLs g b e1 e10 e11 ++ (wSs g sh m10 m11 m12)))) := D_perm (List.perm_append_comm_assoc _ _ _) hD
              have hD : va_D (va_A (wF g a b d f1 ++ (wLs g b e1 e10 e11 ++ (wLs g d t1 t10 t11 ++ (wSs g sh m10 m11 m12)))) s.heap.size) (wLs g d v8 x8 y8 ++ (wLs g b e1 e10 e11 ++ (wF g a b d f1 ++ (wSs g sh m10 m11 m12)))) := D_perm (List.Perm.append_left _ (List.perm_append_comm_assoc _ _ _)) hD
              have hP : va_P g.1 vwCl (wLs g d v8 x8 y8 ++ (wLs g b e1 e10 e11 ++ (wF g a b d f1 ++ (wSs g sh m10 m11 m12)))) H := va_P_app.mpr ⟨hP2, va_P_app.mpr ⟨hP1, va_P_app.mpr ⟨hP0, hP3⟩⟩⟩
              have hP : va_P g.1 vwCl ((wLs g d v8 x8 y8 ++ (wLs g b e1 e10 e11)) ++ (wF g a b d f1 ++ (wSs g sh m10 m11 m12))) H := by rw [List.append_assoc]; exact hP
              have hD : va_D (va_A (wF g a b d f1 ++ (wLs g b e1 e10 e11 ++ (wLs g d t1 t10 t11 ++ (wSs g sh m10 m11 m12)))) s.heap.size) ((wLs g d v8 x8 y8 ++ (wLs g b e1 e10 e11)) ++ (wF g a b d f1 ++ (wSs g sh m10 m11 m12))) := by rw [List.append_assoc]; exact hD
              refine xmF_v (rVN (rest := []) hx hb hml hown hts hK hl (c_X1_becomes l g d v8 x8 y8 b e1 e10 e11 H.size ) lk_X0_25 ⟨rfl, (va_P_app.mp hP).1, (va_D_app hD).1.weaken (fun _ _ _ _ => trivial)⟩ (va_recv hK.1 hP2 (ci := 1) (q0 := 0) rfl rfl) rfl rfl rfl (Rm.of rfl) rfl rfl dX0_matchingPairs_31) hP hD hS hA (fun _ H locs hw hP hD hS => ?_)
              have hP : va_P g.1 vwCl ((wLs g d e1 x8 y8 ++ (wLs g b e1 e10 e11)) ++ (wF g a b d f1 ++ (wSs g sh m10 m11 m12))) H := hP
              have hD : va_D (va_A (wF g a b d f1 ++ (wLs g b e1 e10 e11 ++ (wLs g d t1 t10 t11 ++ (wSs g sh m10 m11 m12)))) s.heap.size) ((wLs g d e1 x8 y8 ++ (wLs g b e1 e10 e11)) ++ (wF g a b d f1 ++ (wSs g sh m10 m11 m12))) := hD
              rw [List.append_assoc] at hP hD
              have hP : va_P g.1 vwCl (wLs g d e1 x8 y8 ++ (wLs g b e1 e10 e11 ++ (wF g a b d f1 ++ (wSs g sh m10 m11 m12)))) H := hP
              have hD : va_D (va_A (wF g a b d f1 ++ (wLs g b e1 e10 e11 ++ (wLs g d t1 t10 t11 ++ (wSs g sh m10 m11 m12)))) s.heap.size) (wLs g d e1 x8 y8 ++ (wLs g b e1 e10 e11 ++ (wF g a b d f1 ++ (wSs g sh m10 m11 m12)))) := hD
              obtain ⟨hP2, hPr0⟩ := va_P_app.mp hP
              obtain ⟨hP1, hPr1⟩ := va_P_app.mp hPr0
              obtain ⟨hP0, hP3⟩ := va_P_app.mp hPr1
              refine lv_aload_n hx hb dX0_matchingPairs_34 rfl (lv_at hl 3 rfl) ?_
              refine xg_X0 hx hb hts hown hK hP0 0 rfl 1 (by decide) fk_X0_12 (v := .ref (d 0)) rfl dX0_matchingPairs_35 ?_
              refine xgN_X1 hx hb hts hown hK hP2 0 rfl 9 (by decide) fk_X0_66 (v := .ref (d 7)) rfl dX0_matchingPairs_38 ?_
              refine lv_iload_n hx hb dX0_matchingPairs_41 rfl (lv_at hl 5 rfl) ?_
              refine lv_iload hx hb dX0_matchingPairs_42 (lv_at hl 1 rfl) ?_
              refine xi_ast hx hb hK hP hD hS 7 (f := pz 2 e1) rfl (i := r) (v := (h : Int)) ⟨by omega, by omega⟩ rfl dX0_matchingPairs_44 (fun H locs hP hD hS => ?_)
              have hP := Eq.mp (congrArg (fun z9 : va_W => va_P g.1 vwCl (z9 ++ (wLs g b e1 e10 e11 ++ (wF g a b d f1 ++ (wSs g sh m10 m11 m12)))) H) (Ls_hastes (g := g) (a := d) (s := e1) (x10 := x8) (x11 := y8) (i := r) (v := (h : Int)) ⟨by omega, by omega⟩)) hP
              have hD := Eq.mp (congrArg (fun z9 : va_W => va_D (va_A (wF g a b d f1 ++ (wLs g b e1 e10 e11 ++ (wLs g d t1 t10 t11 ++ (wSs g sh m10 m11 m12)))) s.heap.size) (z9 ++ (wLs g b e1 e10 e11 ++ (wF g a b d f1 ++ (wSs g sh m10 m11 m12))))) (Ls_hastes (g := g) (a := d) (s := e1) (x10 := x8) (x11 := y8) (i := r) (v := (h : Int)) ⟨by omega, by omega⟩)) hD
              have hP : va_P g.1 vwCl (wLs g d (up e1 (61 + 5 * r + 2) (h : Int)) x8 y8 ++ (wLs g b e1 e10 e11 ++ (wF g a b d f1 ++ (wSs g sh m10 m11 m12)))) H := hP
              have hD : va_D (va_A (wF g a b d f1 ++ (wLs g b e1 e10 e11 ++ (wLs g d t1 t10 t11 ++ (wSs g sh m10 m11 m12)))) s.heap.size) (wLs g d (up e1 (61 + 5 * r + 2) (h : Int)) x8 y8 ++ (wLs g b e1 e10 e11 ++ (wF g a b d f1 ++ (wSs g sh m10 m11 m12)))) := hD
              obtain ⟨hP2, hPr0⟩ := va_P_app.mp hP
              obtain ⟨hP1, hPr1⟩ := va_P_app.mp hPr0
              obtain ⟨hP0, hP3⟩ := va_P_app.mp hPr1
              refine lv_aload_n hx hb dX0_matchingPairs_45 rfl (lv_at hl 3 rfl) ?_
              refine xg_X0 hx hb hts hown hK hP0 0 rfl 1 (by decide) fk_X0_12 (v := .ref (d 0)) rfl dX0_matchingPairs_46 ?_
              refine xgN_X1 hx hb hts hown hK hP2 0 rfl 6 (by decide) fk_X0_73 (v := .ref (d 4)) rfl dX0_matchingPairs_49 ?_
              refine lv_iconst (v := iI (0)) hx hb dX0_matchingPairs_52 (by decide) ?_
              refine lv_iload hx hb dX0_matchingPairs_53 (lv_at hl 0 rfl) ?_
              refine xi_ast hx hb hK hP hD hS 4 (f := pj 3 4 (up e1 (61 + 5 * r + 2) (h : Int))) rfl (i := 0) (v := (w : Int) - 9) ⟨by omega, by omega⟩ rfl dX0_matchingPairs_55 (fun H locs hP hD hS => ?_)
              have hP := Eq.mp (congrArg (fun z9 : va_W => va_P g.1 vwCl (z9 ++ (wLs g b e1 e10 e11 ++ (wF g a b d f1 ++ (wSs g sh m10 m11 m12)))) H) (Ls_weights (g := g) (a := d) (s := up e1 (61 + 5 * r + 2) (h : Int)) (x10 := x8) (x11 := y8) (i := 0) (v := (w : Int) - 9) ⟨by omega, by omega⟩)) hP
              have hD := Eq.mp (congrArg (fun z9 : va_W => va_D (va_A (wF g a b d f1 ++ (wLs g b e1 e10 e11 ++ (wLs g d t1 t10 t11 ++ (wSs g sh m10 m11 m12)))) s.heap.size) (z9 ++ (wLs g b e1 e10 e11 ++ (wF g a b d f1 ++ (wSs g sh m10 m11 m12))))) (Ls_weights (g := g) (a := d) (s := up e1 (61 + 5 * r + 2) (h : Int)) (x10 := x8) (x11 := y8) (i := 0) (v := (w : Int) - 9) ⟨by omega, by omega⟩)) hD
              have hP : va_P g.1 vwCl (wLs g d (up (up e1 (61 + 5 * r + 2) (h : Int)) (3 + 0) ((w : Int) - 9)) x8 y8 ++ (wLs g b e1 e10 e11 ++ (wF g a b d f1 ++ (wSs g sh m10 m11 m12)))) H := hP
              have hD : va_D (va_A (wF g a b d f1 ++ (wLs g b e1 e10 e11 ++ (wLs g d t1 t10 t11 ++ (wSs g sh m10 m11 m12)))) s.heap.size) (wLs g d (up (up e1 (61 + 5 * r + 2) (h : Int)) (3 + 0) ((w : Int) - 9)) x8 y8 ++ (wLs g b e1 e10 e11 ++ (wF g a b d f1 ++ (wSs g sh m10 m11 m12)))) := hD
              obtain ⟨hP2, hPr0⟩ := va_P_app.mp hP
              obtain ⟨hP1, hPr1⟩ := va_P_app.mp hPr0
              obtain ⟨hP0, hP3⟩ := va_P_app.mp hPr1
              refine lv_aload_n hx hb dX0_matchingPairs_56 rfl (lv_at hl 3 rfl) ?_
              refine lv_aload_n hx hb dX0_matchingPairs_57 rfl (lv_at hl 4 rfl) ?_
              refine lv_iload_n hx hb dX0_matchingPairs_58 rfl (lv_at hl 5 rfl) ?_
              have hD : va_D (va_A (wF g a b d f1 ++ (wLs g b e1 e10 e11 ++ (wLs g d t1 t10 t11 ++ (wSs g sh m10 m11 m12)))) s.heap.size) (wLs g d (up (up e1 (61 + 5 * r + 2) (h : Int)) (3 + 0) ((w : Int) - 9)) x8 y8 ++ (wF g a b d f1 ++ (wLs g b e1 e10 e11 ++ (wSs g sh m10 m11 m12)))) := D_perm (List.Perm.append_left _ (List.perm_append_comm_assoc _ _ _)) hD
              have hD : va_D (va_A (wF g a b d f1 ++ (wLs g b e1 e10 e11 ++ (wLs g d t1 t10 t11 ++ (wSs g sh m10 m11 m12)))) s.heap.size) (wF g a b d f1 ++ (wLs g d (up (up e1 (61 + 5 * r + 2) (h : Int)) (3 + 0) ((w : Int) - 9)) x8 y8 ++ (wLs g b e1 e10 e11 ++ (wSs g sh m10 m11 m12)))) := D_perm (List.perm_append_comm_assoc _ _ _) hD
              have hD : va_D (va_A (wF g a b d f1 ++ (wLs g b e1 e10 e11 ++ (wLs g d t1 t10 t11 ++ (wSs g sh m10 m11 m12)))) s.heap.size) (wF g a b d f1 ++ (wLs g b e1 e10 e11 ++ (wLs g d (up (up e1 (61 + 5 * r + 2) (h : Int)) (3 + 0) ((w : Int) - 9)) x8 y8 ++ (wSs g sh m10 m11 m12)))) := D_perm (List.Perm.append_left _ (List.perm_append_comm_assoc _ _ _)) hD
              have hP : va_P g.1 vwCl (wF g a b d f1 ++ (wLs g b e1 e10 e11 ++ (wLs g d (up (up e1 (61 + 5 * r + 2) (h : Int)) (3 + 0) ((w : Int) - 9)) x8 y8 ++ (wSs g sh m10 m11 m12)))) H := va_P_app.mpr ⟨hP0, va_P_app.mpr ⟨hP1, va_P_app.mpr ⟨hP2, hP3⟩⟩⟩
              refine xm_i (rV (rest := []) hx hb hml hown hts hK hl (c_X0_trialGoesAs0 l g a f1 b e1 e10 e11 d (up (up e1 (61 + 5 * r + 2) (h : Int)) (3 + 0) ((w : Int) - 9)) x8 y8 sh m10 m11 m12 r H.size (show InvK 0 (up (up e1 (61 + 5 * r + 2) (h : Int)) (3 + 0) ((w : Int) - 9)) from hIu) (show (up (up e1 (61 + 5 * r + 2) (h : Int)) (3 + 0) ((w : Int) - 9)) 0 ≤ 9999 from by rw [up_n (by omega), up_n (by omega)]; omega) (show 0 ≤ r ∧ r < (up (up e1 (61 + 5 * r + 2) (h : Int)) (3 + 0) ((w : Int) - 9)) 1 from ⟨by omega, by rw [up_n (by omega), up_n (by omega)]; omega⟩) (show 0 ≤ m11 0 ∧ m11 0 ≤ 40 from by omega) (show ∀ j, LR (m12 j) from h5)) lk_X0_122 ⟨rfl, hP, hD.weaken (fun _ _ _ _ => trivial)⟩ (va_recv hK.1 hP0 (ci := 0) (q0 := 0) rfl rfl) rfl rfl rfl (Rm.of rfl) rfl rfl dX0_matchingPairs_59) hD hS hA (fun x9 u6 H locs hw hP hD hS => ?_)
              obtain rfl : x9 = iI (bI (soT (up (up e1 (61 + 5 * r + 2) (h : Int)) (3 + 0) ((w : Int) - 9)) m12 0 r (Int.toNat (m11 0)) = true)) := hw
              have hP : va_P g.1 vwCl (wF g a b d f1 ++ (wLs g b e1 e10 e11 ++ (wLs g d (u6 201) (u6 210) (u6 211) ++ (wSs g sh m10 m11 m12)))) H := hP
              have hD : va_D (va_A (wF g a b d f1 ++ (wLs g b e1 e10 e11 ++ (wLs g d t1 t10 t11 ++ (wSs g sh m10 m11 m12)))) s.heap.size) (wF g a b d f1 ++ (wLs g b e1 e10 e11 ++ (wLs g d (u6 201) (u6 210) (u6 211) ++ (wSs g sh m10 m11 m12)))) := hD
              obtain ⟨hP0, hPr0⟩ := va_P_app.mp hP
              obtain ⟨hP1, hPr1⟩ := va_P_app.mp hPr0
              obtain ⟨hP2, hP3⟩ := va_P_app.mp hPr1
              rcases bI_or (soT (up (up e1 (61 + 5 * r + 2) (h : Int)) (3 + 0) ((w : Int) - 9)) m12 0 r (Int.toNat (m11 0)) = true) with ⟨z6, e6⟩ | ⟨z6, e6⟩
              · rw [e6]
                refine xi_zf_eq hx hb ⟨by decide, by decide⟩ (by decide) dX0_matchingPairs_62 ⟨68, by decide⟩ ?_
                refine xi_inc (lv' := [(3, .int (iI (rdI (rdV e1 m12 0 r (m11 0)) h (rdO (rdV e1 m12 0 r (m11 0)) h) w + 1))), (5, .int (iI ((w : Int) - 9))), (4, .int (iI (h : Int))), (0, .ref (a 0)), (1, .ref (sh 0)), (2, .int (iI r))]) hx hb dX0_matchingPairs_65 hl (k := 2) rfl (by decide) rfl (fun ls hl => ?_)
                refine xi_inc (lv' := [(5, .int (iI ((w : Int) - 9 + 1))), (3, .int (iI (rdI (rdV e1 m12 0 r (m11 0)) h (rdO (rdV e1 m12 0 r (m11 0)) h) w + 1))), (4, .int (iI (h : Int))), (0, .ref (a 0)), (1, .ref (sh 0)), (2, .int (iI r))]) hx hb dX0_matchingPairs_68 hl (k := 1) rfl (by decide) rfl (fun ls hl => ?_)
                refine lv_goto (tgt := 16) hx hb dX0_matchingPairs_71 (by decide) ?_
                have hq7 : ((w : Int) - 9 + 1) = (((w + 1) : Int) - 9) := by omega
                have hq8 : (rdI (rdV e1 m12 0 r (m11 0)) h (rdO (rdV e1 m12 0 r (m11 0)) h) w + 1) = (rdI (rdV e1 m12 0 r (m11 0)) h (rdO (rdV e1 m12 0 r (m11 0)) h) (w + 1)) := by show _ = rdI (rdV e1 m12 0 r (m11 0)) h (rdO (rdV e1 m12 0 r (m11 0)) h) w + (rdV e1 m12 0 r (m11 0)) h w; unfold rdV; first | (rw [if_pos (by assumption)]; done) | (rw [if_neg (by assumption)]; omega)
                have hl : lv_has ls 6 [(5, .int (iI ((w : Int) - 9 + 1))), (4, .int (iI (h : Int))), (3, .int (iI (rdI (rdV e1 m12 0 r (m11 0)) h (rdO (rdV e1 m12 0 r (m11 0)) h) w + 1))), (0, .ref (a 0)), (1, .ref (sh 0)), (2, .int (iI r))] := lv_sub hl [0, 2, 1, 3, 4, 5] rfl
                have hl := Eq.mp (congrArg (fun z9 => lv_has ls 6 [(5, .int (iI z9)), (4, .int (iI (h : Int))), (3, .int (iI (rdI (rdV e1 m12 0 r (m11 0)) h (rdO (rdV e1 m12 0 r (m11 0)) h) w + 1))), (0, .ref (a 0)), (1, .ref (sh 0)), (2, .int (iI r))]) hq7) hl
                have hl := Eq.mp (congrArg (fun z9 => lv_has ls 6 [(5, .int (iI (((w + 1) : Int) - 9))), (4, .int (iI (h : Int))), (3, .int (iI z9)), (0, .ref (a 0)), (1, .ref (sh 0)), (2, .int (iI r))]) hq8) hl
                exact ih16 (w + 1) (u6 201) (u6 210) (u6 211) (by omega) (by omega) ls hl H locs hP hD hS
              · rw [e6]
                refine xi_zt_eq (tgt := 68) hx hb ⟨by decide, by decide⟩ (by decide) dX0_matchingPairs_62 (by decide) ?_
                refine xi_inc (lv' := [(5, .int (iI ((w : Int) - 9 + 1))), (4, .int (iI (h : Int))), (3, .int (iI (rdI (rdV e1 m12 0 r (m11 0)) h (rdO (rdV e1 m12 0 r (m11 0)) h) w))), (0, .ref (a 0)), (1, .ref (sh 0)), (2, .int (iI r))]) hx hb dX0_matchingPairs_68 hl (k := 0) rfl (by decide) rfl (fun ls hl => ?_)
                refine lv_goto (tgt := 16) hx hb dX0_matchingPairs_71 (by decide) ?_
                have hq9 : ((w : Int) - 9 + 1) = (((w + 1) : Int) - 9) := by omega
                have hq10 : (rdI (rdV e1 m12 0 r (m11 0)) h (rdO (rdV e1 m12 0 r (m11 0)) h) w) = (rdI (rdV e1 m12 0 r (m11 0)) h (rdO (rdV e1 m12 0 r (m11 0)) h) (w + 1)) := by show _ = rdI (rdV e1 m12 0 r (m11 0)) h (rdO (rdV e1 m12 0 r (m11 0)) h) w + (rdV e1 m12 0 r (m11 0)) h w; unfold rdV; first | (rw [if_pos (by assumption)]; done) | (rw [if_neg (by assumption)]; omega)
                have hl : lv_has ls 6 [(5, .int (iI ((w : Int) - 9 + 1))), (4, .int (iI (h : Int))), (3, .int (iI (rdI (rdV e1 m12 0 r (m11 0)) h (rdO (rdV e1 m12 0 r (m11 0)) h) w))), (0, .ref (a 0)), (1, .ref (sh 0)), (2, .int (iI r))] := lv_sub hl [0, 1, 2, 3, 4, 5] rfl
                have hl := Eq.mp (congrArg (fun z9 => lv_has ls 6 [(5, .int (iI z9)), (4, .int (iI (h : Int))), (3, .int (iI (rdI (rdV e1 m12 0 r (m11 0)) h (rdO (rdV e1 m12 0 r (m11 0)) h) w))), (0, .ref (a 0)), (1, .ref (sh 0)), (2, .int (iI r))]) hq9) hl
                have hl := Eq.mp (congrArg (fun z9 => lv_has ls 6 [(5, .int (iI (((w + 1) : Int) - 9))), (4, .int (iI (h : Int))), (3, .int (iI z9)), (0, .ref (a 0)), (1, .ref (sh 0)), (2, .int (iI r))]) hq10) hl
                exact ih16 (w + 1) (u6 201) (u6 210) (u6 211) (by omega) (by omega) ls hl H locs hP hD hS
        have hq11 : (-9) = ((0 : Int) - 9) := rfl
        have hq12 : (rdO (rdV e1 m12 0 r (m11 0)) h) = (rdI (rdV e1 m12 0 r (m11 0)) h (rdO (rdV e1 m12 0 r (m11 0)) h) 0) := rfl
        have hl : lv_has ls 6 [(5, .int (iI (-9))), (4, .int (iI (h : Int))), (3, .int (iI (rdO (rdV e1 m12 0 r (m11 0)) h))), (0, .ref (a 0)), (1, .ref (sh 0)), (2, .int (iI r))] := lv_sub hl [0, 1, 2, 3, 4, 5] rfl
        have hl := Eq.mp (congrArg (fun z9 => lv_has ls 6 [(5, .int (iI z9)), (4, .int (iI (h : Int))), (3, .int (iI (rdO (rdV e1 m12 0 r (m11 0)) h))), (0, .ref (a 0)), (1, .ref (sh 0)), (2, .int (iI r))]) hq11) hl
        have hl := Eq.mp (congrArg (fun z9 => lv_has ls 6 [(5, .int (iI ((0 : Int) - 9))), (4, .int (iI (h : Int))), (3, .int (iI z9)), (0, .ref (a 0)), (1, .ref (sh 0)), (2, .int (iI r))]) hq12) hl
        exact lp16 (19 + 1) 0 v9 x9 y9 (by omega) (by omega) ls hl H locs hP hD hS
  have hq13 : 0 = (0 : Int) := rfl
  have hq14 : 0 = (rdO (rdV e1 m12 0 r (m11 0)) 0) := rfl
  have hl : lv_has ls 6 [(4, .int (iI 0)), (3, .int (iI 0)), (0, .ref (a 0)), (1, .ref (sh 0)), (2, .int (iI r))] := lv_sub hl [0, 1, 2, 3, 4] rfl
  have hl := Eq.mp (congrArg (fun z9 => lv_has ls 6 [(4, .int (iI z9)), (3, .int (iI 0)), (0, .ref (a 0)), (1, .ref (sh 0)), (2, .int (iI r))]) hq13) hl
  have hl := Eq.mp (congrArg (fun z9 => lv_has ls 6 [(4, .int (iI (0 : Int))), (3, .int (iI z9)), (0, .ref (a 0)), (1, .ref (sh 0)), (2, .int (iI r))]) hq14) hl
  exact lp5 (10 + 1) 0 t1 t10 t11 (by omega) (by omega) ls hl s.heap [] hP hD hS
set_option maxRecDepth 100000 in
set_option maxHeartbeats 4000000 in
theorem c_X0_bookCells1 (l : Launch) (g : Gd) (a : Nat → Nat) (f1 : Int → Int) (b : Nat → Nat) (e1 : Int → Int) (e10 : Int → Int) (e11 : Int → Int) (d : Nat → Nat) (t1 : Int → Int) (t10 : Int → Int) (t11 : Int → Int) (sh : Nat → Nat) (m10 : Int → Int) (m11 : Int → Int) (m12 : Int → Int) (r : Int) (sz : Nat) (h1 : InvK 0 e1) (h2 : e1 0 ≤ 9999) (h3 : 0 ≤ r ∧ r < e1 1) (h4 : 0 ≤ m11 1 ∧ m11 1 ≤ 40) (h5 : IR (m10 1)) : Met l yX0_bookCells (wsOf yX0_bookCells cX0_bookCells 4 none) rm_X0_bookCells (PX g (wP g (wF g a b d f1 ++ (wLs g b e1 e10 e11 ++ (wLs g d t1 t10 t11 ++ (wSs g sh m10 m11 m12)))) sz) [.ref (a 0), .ref (sh 2), .int (iI r)]) (QMv g (fun u9 : Nat → Int → Int => wF g a b d f1 ++ (wLs g b e1 e10 e11 ++ (wLs g d (u9 201) (u9 210) (u9 211) ++ (wSs g sh m10 m11 (bkT e1 m12 40 r (m11 1)))))) (fun _ => True) (va_A (wF g a b d f1 ++ (wLs g b e1 e10 e11 ++ (wLs g d t1 t10 t11 ++ (wSs g sh m10 m11 m12)))) sz)) 0 0 (va_A (wF g a b d f1 ++ (wLs g b e1 e10 e11 ++ (wLs g d t1 t10 t11 ++ (wSs g sh m10 m11 m12)))) sz) := by
  refine me (g := g) (by decide) rfl ?_
  intro pq eq s mq below meth cq C hnm hB ls hl
  obtain ⟨hx, hb, hr, hml, hown, hts, hlocks, hK⟩ := C
  have hown : s.vm.findClass RX0 = some mq.cls := hown
  have hl : lv_has ls 4 [(0, .ref (a 0)), (1, .ref (sh 2)), (2, .int (iI r))] := hl
  obtain ⟨hsz, hP, hD0⟩ := hB
  subst hsz
  have hD := hD0.self (sz := s.heap.size)
  have hA : ∀ q : Nat, s.heap.size ≤ q → va_A (wF g a b d f1 ++ (wLs g b e1 e10 e11 ++ (wLs g d t1 t10 t11 ++ (wSs g sh m10 m11 m12)))) s.heap.size q := fun q h => Or.inr h
  have hS : va_S (va_A (wF g a b d f1 ++ (wLs g b e1 e10 e11 ++ (wLs g d t1 t10 t11 ++ (wSs g sh m10 m11 m12)))) s.heap.size) s.heap s.heap [] := va_S.rf
  obtain ⟨hP0, hPr0⟩ := va_P_app.mp hP
  obtain ⟨hP1, hPr1⟩ := va_P_app.mp hPr0
  obtain ⟨hP2, hP3⟩ := va_P_app.mp hPr1
  have hI := h1
  have hI8 : Inv e1 := h1.mono (by omega)
  have hn := hI.num
  have hs := hI.sea
  have hv := hI.vil
  have hnw : ∀ v, 0 ≤ v → v ≤ 23 → nrw (m10 1) v = v := fun v h0 h1 => nrw_s h0 h1
  refine lv_aload_n hx hb dX0_bookCells_0 rfl (lv_at hl 0 rfl) ?_
  refine xg_X0 hx hb hts hown hK hP0 0 rfl 1 (by decide) fk_X0_12 (v := .ref (d 0)) rfl dX0_bookCells_1 ?_
  refine lv_aload_n hx hb dX0_bookCells_4 rfl (lv_at hl 0 rfl) ?_
  refine xg_X0 hx hb hts hown hK hP0 0 rfl 0 (by decide) fk_X0_22 (v := .ref (b 0)) rfl dX0_bookCells_5 ?_
  have hD : va_D (va_A (wF g a b d f1 ++ (wLs g b e1 e10 e11 ++ (wLs g d t1 t10 t11 ++ (wSs g sh m10 m11 m12)))) s.heap.size) (wF g a b d f1 ++ (wLs g d t1 t10 t11 ++ (wLs g b e1 e10 e11 ++ (wSs g sh m10 m11 m12)))) := D_perm (List.Perm.append_left _ (List.perm_append_comm_assoc _ _ _)) hD
  have hD : va_D (va_A (wF g a b d f1 ++ (wLs g b e1 e10 e11 ++ (wLs g d t1 t10 t11 ++ (wSs g sh m10 m11 m12)))) s.heap.size) (wLs g d t1 t10 t11 ++ (wF g a b d f1 ++ (wLs g b e1 e10 e11 ++ (wSs g sh m10 m11 m12)))) := D_perm (List.perm_append_comm_assoc _ _ _) hD
  have hD : va_D (va_A (wF g a b d f1 ++ (wLs g b e1 e10 e11 ++ (wLs g d t1 t10 t11 ++ (wSs g sh m10 m11 m12)))) s.heap.size) (wLs g d t1 t10 t11 ++ (wLs g b e1 e10 e11 ++ (wF g a b d f1 ++ (wSs g sh m10 m11 m12)))) := D_perm (List.Perm.append_left _ (List.perm_append_comm_assoc _ _ _)) hD
  have hP : va_P g.1 vwCl (wLs g d t1 t10 t11 ++ (wLs g b e1 e10 e11 ++ (wF g a b d f1 ++ (wSs g sh m10 m11 m12)))) s.heap := va_P_app.mpr ⟨hP2, va_P_app.mpr ⟨hP1, va_P_app.mpr ⟨hP0, hP3⟩⟩⟩
  have hP : va_P g.1 vwCl ((wLs g d t1 t10 t11 ++ (wLs g b e1 e10 e11)) ++ (wF g a b d f1 ++ (wSs g sh m10 m11 m12))) s.heap := by rw [List.append_assoc]; exact hP
  have hD : va_D (va_A (wF g a b d f1 ++ (wLs g b e1 e10 e11 ++ (wLs g d t1 t10 t11 ++ (wSs g sh m10 m11 m12)))) s.heap.size) ((wLs g d t1 t10 t11 ++ (wLs g b e1 e10 e11)) ++ (wF g a b d f1 ++ (wSs g sh m10 m11 m12))) := by rw [List.append_assoc]; exact hD
  refine xmF_v (rVN (rest := []) hx hb hml hown hts hK hl (c_X1_becomes l g d t1 t10 t11 b e1 e10 e11 (s.heap).size ) lk_X0_25 ⟨rfl, (va_P_app.mp hP).1, (va_D_app hD).1.weaken (fun _ _ _ _ => trivial)⟩ (va_recv hK.1 hP2 (ci := 1) (q0 := 0) rfl rfl) rfl rfl rfl (Rm.of rfl) rfl rfl dX0_bookCells_8) hP hD hS hA (fun _ H locs hw hP hD hS => ?_)
  have hP : va_P g.1 vwCl ((wLs g d e1 t10 t11 ++ (wLs g b e1 e10 e11)) ++ (wF g a b d f1 ++ (wSs g sh m10 m11 m12))) H := hP
  have hD : va_D (va_A (wF g a b d f1 ++ (wLs g b e1 e10 e11 ++ (wLs g d t1 t10 t11 ++ (wSs g sh m10 m11 m12)))) s.heap.size) ((wLs g d e1 t10 t11 ++ (wLs g b e1 e10 e11)) ++ (wF g a b d f1 ++ (wSs g sh m10 m11 m12))) := hD
  rw [List.append_assoc] at hP hD
  have hP : va_P g.1 vwCl (wLs g d e1 t10 t11 ++ (wLs g b e1 e10 e11 ++ (wF g a b d f1 ++ (wSs g sh m10 m11 m12)))) H := hP
  have hD : va_D (va_A (wF g a b d f1 ++ (wLs g b e1 e10 e11 ++ (wLs g d t1 t10 t11 ++ (wSs g sh m10 m11 m12)))) s.heap.size) (wLs g d e1 t10 t11 ++ (wLs g b e1 e10 e11 ++ (wF g a b d f1 ++ (wSs g sh m10 m11 m12)))) := hD
  obtain ⟨hP2, hPr0⟩ := va_P_app.mp hP
  obtain ⟨hP1, hPr1⟩ := va_P_app.mp hPr0
  obtain ⟨hP0, hP3⟩ := va_P_app.mp hPr1
  refine lv_iconst (v := iI (0)) hx hb dX0_bookCells_11 (by decide) ?_
  refine lv_istore_n (lv' := [(3, .int (iI 0)), (0, .ref (a 0)), (1, .ref (sh 2)), (2, .int (iI r))]) hx hb dX0_bookCells_12 rfl hl (by decide) rfl (fun ls hl => ?_)
  have lp13 : ∀ (n13 : Nat) (j : Nat) (x9 : Int → Int) (y9 : Int → Int), ((j : Int) ≤ m11 1) → 40 - j < n13 → ∀ ls : Array Slot, lv_has ls 4 [(3, .int (iI (j : Int))), (0, .ref (a 0)), (1, .ref (sh 2)), (2, .int (iI r))] → ∀ (H : Heap) (locs : List Loc), va_P g.1 vwCl (wLs g d (seaN e1 j) x9 y9 ++ (wLs g b e1 e10 e11 ++ (wF g a b d f1 ++ (wSs g sh m10 m11 (bkT e1 m12 40 r (((j) : Nat) : Int)))))) H → va_D (va_A (wF g a b d f1 ++ (wLs g b e1 e10 e11 ++ (wLs g d t1 t10 t11 ++ (wSs g sh m10 m11 m12)))) s.heap.size) (wLs g d (seaN e1 j) x9 y9 ++ (wLs g b e1 e10 e11 ++ (wF g a b d f1 ++ (wSs g sh m10 m11 (bkT e1 m12 40 r (((j) : Nat) : Int)))))) → va_S (va_A (wF g a b d f1 ++ (wLs g b e1 e10 e11 ++ (wLs g d t1 t10 t11 ++ (wSs g sh m10 m11 m12)))) s.heap.size) s.heap H locs → W pq l eq rm_X0_bookCells s mq [.ref (a 0), .ref (sh 2), .int (iI r)].toArray below meth cq H locs 0 0 (MQ below (QMv g (fun u9 : Nat → Int → Int => wF g a b d f1 ++ (wLs g b e1 e10 e11 ++ (wLs g d (u9 201) (u9 210) (u9 211) ++ (wSs g sh m10 m11 (bkT e1 m12 40 r (m11 1)))))) (fun _ => True) (va_A (wF g a b d f1 ++ (wLs g b e1 e10 e11 ++ (wLs g d t1 t10 t11 ++ (wSs g sh m10 m11 m12)))) s.heap.size)) [.ref (a 0), .ref (sh 2), .int (iI r)].toArray s 0 0 (va_A (wF g a b d f1 ++ (wLs g b e1 e10 e11 ++ (wLs g d t1 t10 t11 ++ (wSs g sh m10 m11 m12)))) s.heap.size)) (F0 mq 13 ls []) := by
    intro n13
    induction n13 with
    | zero => intro j x9 y9 i13_1 hm; exact absurd hm (Nat.not_lt_zero _)
    | succ n13 ih13 =>
      intro j x9 y9 i13_1 hm13 ls hl H locs hP hD hS
      have hsn := seaN_inv hI j (by omega)
      have hs0 := hsn.2.1
      have hs1 := hsn.2.2 1 (by omega) (by omega)
      have hcr := hsn.1.ran r (by omega) (by omega)
      obtain ⟨hP2, hPr0⟩ := va_P_app.mp hP
      obtain ⟨hP1, hPr1⟩ := va_P_app.mp hPr0
      obtain ⟨hP0, hP3⟩ := va_P_app.mp hPr1
      refine lv_iload_n hx hb dX0_bookCells_13 rfl (lv_at hl 0 rfl) ?_
      refine lv_aload_n hx hb dX0_bookCells_14 rfl (lv_at hl 2 rfl) ?_
      refine xgN_X2 hx hb hts hown hK hP3 2 rfl 2 (by decide) fk_X0_113 (v := .int (iI (m11 1))) rfl dX0_bookCells_15 ?_
      refine xi_c_ge (tgt := 49) hx hb ⟨by omega, by omega⟩ ⟨by omega, by omega⟩ dX0_bookCells_18 (by decide) (fun z2 => ?_) (fun z2 => ?_)
      · have hD : va_D (va_A (wF g a b d f1 ++ (wLs g b e1 e10 e11 ++ (wLs g d t1 t10 t11 ++ (wSs g sh m10 m11 m12)))) s.heap.size) (wLs g d (seaN e1 j) x9 y9 ++ (wF g a b d f1 ++ (wLs g b e1 e10 e11 ++ (wSs g sh m10 m11 (bkT e1 m12 40 r (((j) : Nat) : Int)))))) := D_perm (List.Perm.append_left _ (List.perm_append_comm_assoc _ _ _)) hD
        have hD : va_D (va_A (wF g a b d f1 ++ (wLs g b e1 e10 e11 ++ (wLs g d t1 t10 t11 ++ (wSs g sh m10 m11 m12)))) s.heap.size) (wF g a b d f1 ++ (wLs g d (seaN e1 j) x9 y9 ++ (wLs g b e1 e10 e11 ++ (wSs g sh m10 m11 (bkT e1 m12 40 r (((j) : Nat) : Int)))))) := D_perm (List.perm_append_comm_assoc _ _ _) hD
        have hD : va_D (va_A (wF g a b d f1 ++ (wLs g b e1 e10 e11 ++ (wLs g d t1 t10 t11 ++ (wSs g sh m10 m11 m12)))) s.heap.size) (wF g a b d f1 ++ (wLs g b e1 e10 e11 ++ (wLs g d (seaN e1 j) x9 y9 ++ (wSs g sh m10 m11 (bkT e1 m12 40 r (((j) : Nat) : Int)))))) := D_perm (List.Perm.append_left _ (List.perm_append_comm_assoc _ _ _)) hD
        have hP : va_P g.1 vwCl (wF g a b d f1 ++ (wLs g b e1 e10 e11 ++ (wLs g d (seaN e1 j) x9 y9 ++ (wSs g sh m10 m11 (bkT e1 m12 40 r (((j) : Nat) : Int)))))) H := va_P_app.mpr ⟨hP0, va_P_app.mpr ⟨hP1, va_P_app.mpr ⟨hP2, hP3⟩⟩⟩
        have he3 : (bkT e1 m12 40 r (((j) : Nat) : Int)) = (bkT e1 m12 40 r (m11 1)) := by rw [show ((j : Nat) : Int) = m11 1 by omega]
        have hP := Eq.mp (congrArg (fun z9 => va_P g.1 vwCl (wF g a b d f1 ++ (wLs g b e1 e10 e11 ++ (wLs g d (seaN e1 j) x9 y9 ++ (wSs g sh m10 m11 z9)))) H) he3) hP
        have hD := Eq.mp (congrArg (fun z9 => va_D (va_A (wF g a b d f1 ++ (wLs g b e1 e10 e11 ++ (wLs g d t1 t10 t11 ++ (wSs g sh m10 m11 m12)))) s.heap.size) (wF g a b d f1 ++ (wLs g b e1 e10 e11 ++ (wLs g d (seaN e1 j) x9 y9 ++ (wSs g sh m10 m11 z9))))) he3) hD
        obtain ⟨hP0, hPr0⟩ := va_P_app.mp hP
        obtain ⟨hP1, hPr1⟩ := va_P_app.mp hPr0
        obtain ⟨hP2, hP3⟩ := va_P_app.mp hPr1
        have hP : va_P g.1 vwCl (wF g a b d f1 ++ (wLs g b e1 e10 e11 ++ (wLs g d ((su (su (su (fun _ _ => 0) 201 (seaN e1 j)) 210 x9) 211 y9) 201) ((su (su (su (fun _ _ => 0) 201 (seaN e1 j)) 210 x9) 211 y9) 210) ((su (su (su (fun _ _ => 0) 201 (seaN e1 j)) 210 x9) 211 y9) 211) ++ (wSs g sh m10 m11 (bkT e1 m12 40 r (m11 1)))))) H := hP
        have hD : va_D (va_A (wF g a b d f1 ++ (wLs g b e1 e10 e11 ++ (wLs g d t1 t10 t11 ++ (wSs g sh m10 m11 m12)))) s.heap.size) (wF g a b d f1 ++ (wLs g b e1 e10 e11 ++ (wLs g d ((su (su (su (fun _ _ => 0) 201 (seaN e1 j)) 210 x9) 211 y9) 201) ((su (su (su (fun _ _ => 0) 201 (seaN e1 j)) 210 x9) 211 y9) 210) ((su (su (su (fun _ _ => 0) 201 (seaN e1 j)) 210 x9) 211 y9) 211) ++ (wSs g sh m10 m11 (bkT e1 m12 40 r (m11 1)))))) := hD
        exact W.vret hx hb hr (fun t ht hW => ⟨⟨(su (su (su (fun _ _ => 0) 201 (seaN e1 j)) 210 x9) 211 y9), rfl, trivial, by rw [ht]; exact hP, hD⟩, hS.F ht⟩) hS.2.2 dX0_bookCells_49
      · refine lv_aload_n hx hb dX0_bookCells_21 rfl (lv_at hl 2 rfl) ?_
        refine lv_iload_n hx hb dX0_bookCells_22 rfl (lv_at hl 0 rfl) ?_
        refine lv_aload_n hx hb dX0_bookCells_23 rfl (lv_at hl 1 rfl) ?_
        refine xg_X0 hx hb hts hown hK hP0 0 rfl 1 (by decide) fk_X0_12 (v := .ref (d 0)) rfl dX0_bookCells_24 ?_
        refine xgN_X1 hx hb hts hown hK hP2 0 rfl 8 (by decide) fk_X0_33 (v := .ref (d 6)) rfl dX0_bookCells_27 ?_
        refine lv_iload_n hx hb dX0_bookCells_30 rfl (lv_at hl 3 rfl) ?_
        refine xi_alz hx hb hK hP2 6 (s0 := seaN e1 j) rfl (i := r) ⟨by omega, by omega⟩ rfl dX0_bookCells_31 ?_
        refine xi_i2l hx hb ⟨by omega, by omega⟩ dX0_bookCells_32 ?_
        have hD : va_D (va_A (wF g a b d f1 ++ (wLs g b e1 e10 e11 ++ (wLs g d t1 t10 t11 ++ (wSs g sh m10 m11 m12)))) s.heap.size) (wLs g d (seaN e1 j) x9 y9 ++ (wLs g b e1 e10 e11 ++ (wSs g sh m10 m11 (bkT e1 m12 40 r (((j) : Nat) : Int)) ++ (wF g a b d f1)))) := D_perm (List.Perm.append_left _ (List.Perm.append_left _ (List.perm_append_comm))) hD
        have hD : va_D (va_A (wF g a b d f1 ++ (wLs g b e1 e10 e11 ++ (wLs g d t1 t10 t11 ++ (wSs g sh m10 m11 m12)))) s.heap.size) (wLs g d (seaN e1 j) x9 y9 ++ (wSs g sh m10 m11 (bkT e1 m12 40 r (((j) : Nat) : Int)) ++ (wLs g b e1 e10 e11 ++ (wF g a b d f1)))) := D_perm (List.Perm.append_left _ (List.perm_append_comm_assoc _ _ _)) hD
        have hD : va_D (va_A (wF g a b d f1 ++ (wLs g b e1 e10 e11 ++ (wLs g d t1 t10 t11 ++ (wSs g sh m10 m11 m12)))) s.heap.size) (wSs g sh m10 m11 (bkT e1 m12 40 r (((j) : Nat) : Int)) ++ (wLs g d (seaN e1 j) x9 y9 ++ (wLs g b e1 e10 e11 ++ (wF g a b d f1)))) := D_perm (List.perm_append_comm_assoc _ _ _) hD
        have hP : va_P g.1 vwCl (wSs g sh m10 m11 (bkT e1 m12 40 r (((j) : Nat) : Int)) ++ (wLs g d (seaN e1 j) x9 y9 ++ (wLs g b e1 e10 e11 ++ (wF g a b d f1)))) H := va_P_app.mpr ⟨hP3, va_P_app.mpr ⟨hP2, va_P_app.mpr ⟨hP1, hP0⟩⟩⟩
        refine xmF_v (rVN (rest := []) hx hb hml hown hts hK hl (c_X2_put1 l g sh m10 m11 (bkT e1 m12 40 r (((j) : Nat) : Int)) (j : Int) ((seaN e1 j) (61 + 5 * r + 1)) H.size (show IR (m10 1) from h5) (show 0 ≤ (j : Int) ∧ (j : Int) < 40 from by omega)) lk_X0_118 ⟨rfl, hP3, (va_D_app hD).1.weaken (fun _ _ _ _ => trivial)⟩ (va_recv hK.1 hP3 (ci := 2) (q0 := 2) rfl rfl) rfl rfl rfl (Rm.of rfl) rfl rfl dX0_bookCells_33) hP hD hS hA (fun _ H locs hw hP hD hS => ?_)
        have hP : va_P g.1 vwCl (wSs g sh m10 m11 (up (bkT e1 m12 40 r (((j) : Nat) : Int)) (40 + (j : Int)) (nrw (m10 1) ((seaN e1 j) (61 + 5 * r + 1)))) ++ (wLs g d (seaN e1 j) x9 y9 ++ (wLs g b e1 e10 e11 ++ (wF g a b d f1)))) H := hP
        have hD : va_D (va_A (wF g a b d f1 ++ (wLs g b e1 e10 e11 ++ (wLs g d t1 t10 t11 ++ (wSs g sh m10 m11 m12)))) s.heap.size) (wSs g sh m10 m11 (up (bkT e1 m12 40 r (((j) : Nat) : Int)) (40 + (j : Int)) (nrw (m10 1) ((seaN e1 j) (61 + 5 * r + 1)))) ++ (wLs g d (seaN e1 j) x9 y9 ++ (wLs g b e1 e10 e11 ++ (wF g a b d f1)))) := hD
        obtain ⟨hP3, hPr0⟩ := va_P_app.mp hP
        obtain ⟨hP2, hPr1⟩ := va_P_app.mp hPr0
        obtain ⟨hP1, hP0⟩ := va_P_app.mp hPr1
        refine lv_aload_n hx hb dX0_bookCells_36 rfl (lv_at hl 1 rfl) ?_
        refine xg_X0 hx hb hts hown hK hP0 0 rfl 1 (by decide) fk_X0_12 (v := .ref (d 0)) rfl dX0_bookCells_37 ?_
        have hD : va_D (va_A (wF g a b d f1 ++ (wLs g b e1 e10 e11 ++ (wLs g d t1 t10 t11 ++ (wSs g sh m10 m11 m12)))) s.heap.size) (wLs g d (seaN e1 j) x9 y9 ++ (wSs g sh m10 m11 (up (bkT e1 m12 40 r (((j) : Nat) : Int)) (40 + (j : Int)) (nrw (m10 1) ((seaN e1 j) (61 + 5 * r + 1)))) ++ (wLs g b e1 e10 e11 ++ (wF g a b d f1)))) := D_perm (List.perm_append_comm_assoc _ _ _) hD
        have hP : va_P g.1 vwCl (wLs g d (seaN e1 j) x9 y9 ++ (wSs g sh m10 m11 (up (bkT e1 m12 40 r (((j) : Nat) : Int)) (40 + (j : Int)) (nrw (m10 1) ((seaN e1 j) (61 + 5 * r + 1)))) ++ (wLs g b e1 e10 e11 ++ (wF g a b d f1)))) H := va_P_app.mpr ⟨hP2, va_P_app.mpr ⟨hP3, va_P_app.mpr ⟨hP1, hP0⟩⟩⟩
        refine xmF_v (rVN (rest := []) hx hb hml hown hts hK hl (c_X1_goSeason l g d (seaN e1 j) x9 y9 H.size (show InvK 0 (seaN e1 j) from hsn.1) (show (seaN e1 j) 0 < 20000 from by omega)) lk_X0_36 ⟨rfl, hP2, (va_D_app hD).1.weaken (fun _ _ _ _ => trivial)⟩ (va_recv hK.1 hP2 (ci := 1) (q0 := 0) rfl rfl) rfl rfl rfl (Rm.of rfl) rfl rfl dX0_bookCells_40) hP hD hS hA (fun u5 H locs hw hP hD hS => ?_)
        have hP : va_P g.1 vwCl (wLs g d (sea (seaN e1 j)) (u5 10) (u5 11) ++ (wSs g sh m10 m11 (up (bkT e1 m12 40 r (((j) : Nat) : Int)) (40 + (j : Int)) (nrw (m10 1) ((seaN e1 j) (61 + 5 * r + 1)))) ++ (wLs g b e1 e10 e11 ++ (wF g a b d f1)))) H := hP
        have hD : va_D (va_A (wF g a b d f1 ++ (wLs g b e1 e10 e11 ++ (wLs g d t1 t10 t11 ++ (wSs g sh m10 m11 m12)))) s.heap.size) (wLs g d (sea (seaN e1 j)) (u5 10) (u5 11) ++ (wSs g sh m10 m11 (up (bkT e1 m12 40 r (((j) : Nat) : Int)) (40 + (j : Int)) (nrw (m10 1) ((seaN e1 j) (61 + 5 * r + 1)))) ++ (wLs g b e1 e10 e11 ++ (wF g a b d f1)))) := hD
        obtain ⟨hP2, hPr0⟩ := va_P_app.mp hP
        obtain ⟨hP3, hPr1⟩ := va_P_app.mp hPr0
        obtain ⟨hP1, hP0⟩ := va_P_app.mp hPr1
        refine xi_inc (lv' := [(3, .int (iI ((j : Int) + 1))), (0, .ref (a 0)), (1, .ref (sh 2)), (2, .int (iI r))]) hx hb dX0_bookCells_43 hl (k := 0) rfl (by decide) rfl (fun ls hl => ?_)
        refine lv_goto (tgt := 13) hx hb dX0_bookCells_46 (by decide) ?_
        have hq6 : ((j : Int) + 1) = ((j + 1) : Int) := by omega
        have hl : lv_has ls 4 [(3, .int (iI ((j : Int) + 1))), (0, .ref (a 0)), (1, .ref (sh 2)), (2, .int (iI r))] := lv_sub hl [0, 1, 2, 3] rfl
        have hl := Eq.mp (congrArg (fun z9 => lv_has ls 4 [(3, .int (iI z9)), (0, .ref (a 0)), (1, .ref (sh 2)), (2, .int (iI r))]) hq6) hl
        have hq7 : (sea (seaN e1 j)) = (seaN e1 (j + 1)) := rfl
        have hP := Eq.mp (congrArg (fun z9 => va_P g.1 vwCl (wLs g d z9 (u5 10) (u5 11) ++ (wSs g sh m10 m11 (up (bkT e1 m12 40 r (((j) : Nat) : Int)) (40 + (j : Int)) (nrw (m10 1) ((seaN e1 j) (61 + 5 * r + 1)))) ++ (wLs g b e1 e10 e11 ++ (wF g a b d f1)))) H) hq7) hP
        have hD := Eq.mp (congrArg (fun z9 => va_D (va_A (wF g a b d f1 ++ (wLs g b e1 e10 e11 ++ (wLs g d t1 t10 t11 ++ (wSs g sh m10 m11 m12)))) s.heap.size) (wLs g d z9 (u5 10) (u5 11) ++ (wSs g sh m10 m11 (up (bkT e1 m12 40 r (((j) : Nat) : Int)) (40 + (j : Int)) (nrw (m10 1) ((seaN e1 j) (61 + 5 * r + 1)))) ++ (wLs g b e1 e10 e11 ++ (wF g a b d f1))))) hq7) hD
        obtain ⟨hP2, hPr0⟩ := va_P_app.mp hP
        obtain ⟨hP3, hPr1⟩ := va_P_app.mp hPr0
        obtain ⟨hP1, hP0⟩ := va_P_app.mp hPr1
        have hq8 : (up (bkT e1 m12 40 r (((j) : Nat) : Int)) (40 + (j : Int)) (nrw (m10 1) ((seaN e1 j) (61 + 5 * r + 1)))) = (bkT e1 m12 40 r ((((j + 1)) : Nat) : Int)) := by rw [← bkT_S e1 m12 40 r j]; congr 1; exact hnw _ (by omega) (by omega)
        have hP := Eq.mp (congrArg (fun z9 => va_P g.1 vwCl (wLs g d (seaN e1 (j + 1)) (u5 10) (u5 11) ++ (wSs g sh m10 m11 z9 ++ (wLs g b e1 e10 e11 ++ (wF g a b d f1)))) H) hq8) hP
        have hD := Eq.mp (congrArg (fun z9 => va_D (va_A (wF g a b d f1 ++ (wLs g b e1 e10 e11 ++ (wLs g d t1 t10 t11 ++ (wSs g sh m10 m11 m12)))) s.heap.size) (wLs g d (seaN e1 (j + 1)) (u5 10) (u5 11) ++ (wSs g sh m10 m11 z9 ++ (wLs g b e1 e10 e11 ++ (wF g a b d f1))))) hq8) hD
        obtain ⟨hP2, hPr0⟩ := va_P_app.mp hP
        obtain ⟨hP3, hPr1⟩ := va_P_app.mp hPr0
        obtain ⟨hP1, hP0⟩ := va_P_app.mp hPr1
        have hD : va_D (va_A (wF g a b d f1 ++ (wLs g b e1 e10 e11 ++ (wLs g d t1 t10 t11 ++ (wSs g sh m10 m11 m12)))) s.heap.size) (wLs g d (seaN e1 (j + 1)) (u5 10) (u5 11) ++ (wLs g b e1 e10 e11 ++ (wSs g sh m10 m11 (bkT e1 m12 40 r ((((j + 1)) : Nat) : Int)) ++ (wF g a b d f1)))) := D_perm (List.Perm.append_left _ (List.perm_append_comm_assoc _ _ _)) hD
        have hD : va_D (va_A (wF g a b d f1 ++ (wLs g b e1 e10 e11 ++ (wLs g d t1 t10 t11 ++ (wSs g sh m10 m11 m12)))) s.heap.size) (wLs g d (seaN e1 (j + 1)) (u5 10) (u5 11) ++ (wLs g b e1 e10 e11 ++ (wF g a b d f1 ++ (wSs g sh m10 m11 (bkT e1 m12 40 r ((((j + 1)) : Nat) : Int)))))) := D_perm (List.Perm.append_left _ (List.Perm.append_left _ (List.perm_append_comm))) hD
        have hP : va_P g.1 vwCl (wLs g d (seaN e1 (j + 1)) (u5 10) (u5 11) ++ (wLs g b e1 e10 e11 ++ (wF g a b d f1 ++ (wSs g sh m10 m11 (bkT e1 m12 40 r ((((j + 1)) : Nat) : Int)))))) H := va_P_app.mpr ⟨hP2, va_P_app.mpr ⟨hP1, va_P_app.mpr ⟨hP0, hP3⟩⟩⟩
        exact ih13 (j + 1) (u5 10) (u5 11) (by omega) (by omega) ls hl H locs hP hD hS
  have hq9 : 0 = (0 : Int) := rfl
  have hl : lv_has ls 4 [(3, .int (iI 0)), (0, .ref (a 0)), (1, .ref (sh 2)), (2, .int (iI r))] := lv_sub hl [0, 1, 2, 3] rfl
  have hl := Eq.mp (congrArg (fun z9 => lv_has ls 4 [(3, .int (iI z9)), (0, .ref (a 0)), (1, .ref (sh 2)), (2, .int (iI r))]) hq9) hl
  have hq10 : e1 = (seaN e1 0) := rfl
  have hP := Eq.mp (congrArg (fun z9 => va_P g.1 vwCl (wLs g d z9 t10 t11 ++ (wLs g b e1 e10 e11 ++ (wF g a b d f1 ++ (wSs g sh m10 m11 m12)))) H) hq10) hP
  have hD := Eq.mp (congrArg (fun z9 => va_D (va_A (wF g a b d f1 ++ (wLs g b e1 e10 e11 ++ (wLs g d t1 t10 t11 ++ (wSs g sh m10 m11 m12)))) s.heap.size) (wLs g d z9 t10 t11 ++ (wLs g b e1 e10 e11 ++ (wF g a b d f1 ++ (wSs g sh m10 m11 m12))))) hq10) hD
  obtain ⟨hP2, hPr0⟩ := va_P_app.mp hP
  obtain ⟨hP1, hPr1⟩ := va_P_app.mp hPr0
  obtain ⟨hP0, hP3⟩ := va_P_app.mp hPr1
  have hq11 : m12 = (bkT e1 m12 40 r (((0) : Nat) : Int)) := bkT_0 e1 m12 40 r
  have hP := Eq.mp (congrArg (fun z9 => va_P g.1 vwCl (wLs g d (seaN e1 0) t10 t11 ++ (wLs g b e1 e10 e11 ++ (wF g a b d f1 ++ (wSs g sh m10 m11 z9)))) H) hq11) hP
  have hD := Eq.mp (congrArg (fun z9 => va_D (va_A (wF g a b d f1 ++ (wLs g b e1 e10 e11 ++ (wLs g d t1 t10 t11 ++ (wSs g sh m10 m11 m12)))) s.heap.size) (wLs g d (seaN e1 0) t10 t11 ++ (wLs g b e1 e10 e11 ++ (wF g a b d f1 ++ (wSs g sh m10 m11 z9))))) hq11) hD
  obtain ⟨hP2, hPr0⟩ := va_P_app.mp hP
  obtain ⟨hP1, hPr1⟩ := va_P_app.mp hPr0
  obtain ⟨hP0, hP3⟩ := va_P_app.mp hPr1
  exact lp13 (40 + 1) 0 t10 t11 (by omega) (by omega) ls hl H locs hP hD hS
set_option maxRecDepth 100000 in
set_option maxHeartbeats 4000000 in
theorem c_X0_trialGoesAs1 (l : Launch) (g : Gd) (a : Nat → Nat) (f1 : Int → Int) (b : Nat → Nat) (e1 : Int → Int) (e10 : Int → Int) (e11 : Int → Int) (d : Nat → Nat) (t1 : Int → Int) (t10 : Int → Int) (t11 : Int → Int) (sh : Nat → Nat) (m10 : Int → Int) (m11 : Int → Int) (m12 : Int → Int) (r : Int) (sz : Nat) (h1 : InvK 0 t1) (h2 : t1 0 ≤ 9999) (h3 : 0 ≤ r ∧ r < t1 1) (h4 : 0 ≤ m11 1 ∧ m11 1 ≤ 40) (h5 : ∀ j, LR (m12 j)) : Met l yX0_trialGoesAs (wsOf yX0_trialGoesAs cX0_trialGoesAs 4 (some .boolean)) rm_X0_trialGoesAs (PX g (wP g (wF g a b d f1 ++ (wLs g b e1 e10 e11 ++ (wLs g d t1 t10 t11 ++ (wSs g sh m10 m11 m12)))) sz) [.ref (a 0), .ref (sh 2), .int (iI r)]) (QMi g (fun u9 : Nat → Int → Int => wF g a b d f1 ++ (wLs g b e1 e10 e11 ++ (wLs g d (u9 201) (u9 210) (u9 211) ++ (wSs g sh m10 m11 m12)))) (fun r9 _ => r9 = iI (bI (soT t1 m12 40 r (Int.toNat (m11 1)) = true))) (va_A (wF g a b d f1 ++ (wLs g b e1 e10 e11 ++ (wLs g d t1 t10 t11 ++ (wSs g sh m10 m11 m12)))) sz)) 0 0 (va_A (wF g a b d f1 ++ (wLs g b e1 e10 e11 ++ (wLs g d t1 t10 t11 ++ (wSs g sh m10 m11 m12)))) sz) := by
  refine me (g := g) (by decide) rfl ?_
  intro pq eq s mq below meth cq C hnm hB ls hl
  obtain ⟨hx, hb, hr, hml, hown, hts, hlocks, hK⟩ := C
  have hown : s.vm.findClass RX0 = some mq.cls := hown
  have hl : lv_has ls 4 [(0, .ref (a 0)), (1, .ref (sh 2)), (2, .int (iI r))] := hl
  obtain ⟨hsz, hP, hD0⟩ := hB
  subst hsz
  have hD := hD0.self (sz := s.heap.size)
  have hA : ∀ q : Nat, s.heap.size ≤ q → va_A (wF g a b d f1 ++ (wLs g b e1 e10 e11 ++ (wLs g d t1 t10 t11 ++ (wSs g sh m10 m11 m12)))) s.heap.size q := fun q h => Or.inr h
  have hS : va_S (va_A (wF g a b d f1 ++ (wLs g b e1 e10 e11 ++ (wLs g d t1 t10 t11 ++ (wSs g sh m10 m11 m12)))) s.heap.size) s.heap s.heap [] := va_S.rf
  obtain ⟨hP0, hPr0⟩ := va_P_app.mp hP
  obtain ⟨hP1, hPr1⟩ := va_P_app.mp hPr0
  obtain ⟨hP2, hP3⟩ := va_P_app.mp hPr1
  have hI := h1
  have hn := hI.num
  refine lv_iconst (v := iI (0)) hx hb dX0_trialGoesAs_0 (by decide) ?_
  refine lv_istore_n (lv' := [(3, .int (iI 0)), (0, .ref (a 0)), (1, .ref (sh 2)), (2, .int (iI r))]) hx hb dX0_trialGoesAs_1 rfl hl (by decide) rfl (fun ls hl => ?_)
  have lp2 : ∀ (n2 : Nat) (j : Nat) (x9 : Int → Int) (y9 : Int → Int), ((j : Int) ≤ m11 1) → (soT t1 m12 40 r j = true) → 40 - j < n2 → ∀ ls : Array Slot, lv_has ls 4 [(3, .int (iI (j : Int))), (0, .ref (a 0)), (1, .ref (sh 2)), (2, .int (iI r))] → ∀ (H : Heap) (locs : List Loc), va_P g.1 vwCl (wF g a b d f1 ++ (wLs g b e1 e10 e11 ++ (wLs g d (seaN t1 j) x9 y9 ++ (wSs g sh m10 m11 m12)))) H → va_D (va_A (wF g a b d f1 ++ (wLs g b e1 e10 e11 ++ (wLs g d t1 t10 t11 ++ (wSs g sh m10 m11 m12)))) s.heap.size) (wF g a b d f1 ++ (wLs g b e1 e10 e11 ++ (wLs g d (seaN t1 j) x9 y9 ++ (wSs g sh m10 m11 m12)))) → va_S (va_A (wF g a b d f1 ++ (wLs g b e1 e10 e11 ++ (wLs g d t1 t10 t11 ++ (wSs g sh m10 m11 m12)))) s.heap.size) s.heap H locs → W pq l eq rm_X0_trialGoesAs s mq [.ref (a 0), .ref (sh 2), .int (iI r)].toArray below meth cq H locs 0 0 (MQ below (QMi g (fun u9 : Nat → Int → Int => wF g a b d f1 ++ (wLs g b e1 e10 e11 ++ (wLs g d (u9 201) (u9 210) (u9 211) ++ (wSs g sh m10 m11 m12)))) (fun r9 _ => r9 = iI (bI (soT t1 m12 40 r (Int.toNat (m11 1)) = true))) (va_A (wF g a b d f1 ++ (wLs g b e1 e10 e11 ++ (wLs g d t1 t10 t11 ++ (wSs g sh m10 m11 m12)))) s.heap.size)) [.ref (a 0), .ref (sh 2), .int (iI r)].toArray s 0 0 (va_A (wF g a b d f1 ++ (wLs g b e1 e10 e11 ++ (wLs g d t1 t10 t11 ++ (wSs g sh m10 m11 m12)))) s.heap.size)) (F0 mq 2 ls []) := by
    intro n2
    induction n2 with
    | zero => intro j x9 y9 i2_1 i2_2 hm; exact absurd hm (Nat.not_lt_zero _)
    | succ n2 ih2 =>
      intro j x9 y9 i2_1 i2_2 hm2 ls hl H locs hP hD hS
      have hsn := seaN_inv hI j (by omega)
      have hs0 := hsn.2.1
      have hs1 := hsn.2.2 1 (by omega) (by omega)
      have hcr := hsn.1.ran r (by omega) (by omega)
      obtain ⟨hP0, hPr0⟩ := va_P_app.mp hP
      obtain ⟨hP1, hPr1⟩ := va_P_app.mp hPr0
      obtain ⟨hP2, hP3⟩ := va_P_app.mp hPr1
      refine lv_iload_n hx hb dX0_trialGoesAs_2 rfl (lv_at hl 0 rfl) ?_
      refine lv_aload_n hx hb dX0_trialGoesAs_3 rfl (lv_at hl 2 rfl) ?_
      refine xgN_X2 hx hb hts hown hK hP3 2 rfl 2 (by decide) fk_X0_113 (v := .int (iI (m11 1))) rfl dX0_trialGoesAs_4 ?_
      refine xi_c_ge (tgt := 45) hx hb ⟨by omega, by omega⟩ ⟨by omega, by omega⟩ dX0_trialGoesAs_7 (by decide) (fun z1 => ?_) (fun z1 => ?_)
      · refine lv_iconst (v := iI (1)) hx hb dX0_trialGoesAs_45 (by decide) ?_
        have hP : va_P g.1 vwCl (wF g a b d f1 ++ (wLs g b e1 e10 e11 ++ (wLs g d ((su (su (su (fun _ _ => 0) 201 (seaN t1 j)) 210 x9) 211 y9) 201) ((su (su (su (fun _ _ => 0) 201 (seaN t1 j)) 210 x9) 211 y9) 210) ((su (su (su (fun _ _ => 0) 201 (seaN t1 j)) 210 x9) 211 y9) 211) ++ (wSs g sh m10 m11 m12)))) H := hP
        have hD : va_D (va_A (wF g a b d f1 ++ (wLs g b e1 e10 e11 ++ (wLs g d t1 t10 t11 ++ (wSs g sh m10 m11 m12)))) s.heap.size) (wF g a b d f1 ++ (wLs g b e1 e10 e11 ++ (wLs g d ((su (su (su (fun _ _ => 0) 201 (seaN t1 j)) 210 x9) 211 y9) 201) ((su (su (su (fun _ _ => 0) 201 (seaN t1 j)) 210 x9) 211 y9) 210) ((su (su (su (fun _ _ => 0) 201 (seaN t1 j)) 210 x9) 211 y9) 211) ++ (wSs g sh m10 m11 m12)))) := hD
        exact W.zret hx hb hr (by decide) (fun t ht hW => ⟨⟨_, (su (su (su (fun _ _ => 0) 201 (seaN t1 j)) 210 x9) 211 y9), rfl, by rw [bI_t (by rw [show (m11 1).toNat = j by omega]; exact i2_2)], by rw [ht]; exact hP, hD⟩, hS.F ht⟩) hS.2.2 dX0_trialGoesAs_46
      · refine lv_aload_n hx hb dX0_trialGoesAs_10 rfl (lv_at hl 2 rfl) ?_
        refine xgN_X2 hx hb hts hown hK hP3 2 rfl 0 (by decide) fk_X0_126 (v := .ref (sh 3)) rfl dX0_trialGoesAs_11 ?_
        refine lv_iload_n hx hb dX0_trialGoesAs_14 rfl (lv_at hl 0 rfl) ?_
        refine xl_alq hx hb hK hP3 3 (s0 := m12) rfl (i := (j : Int)) ⟨by omega, by omega⟩ rfl dX0_trialGoesAs_15 ?_
        refine lv_aload_n hx hb dX0_trialGoesAs_16 rfl (lv_at hl 1 rfl) ?_
        refine xg_X0 hx hb hts hown hK hP0 0 rfl 1 (by decide) fk_X0_12 (v := .ref (d 0)) rfl dX0_trialGoesAs_17 ?_
        refine xgN_X1 hx hb hts hown hK hP2 0 rfl 8 (by decide) fk_X0_33 (v := .ref (d 6)) rfl dX0_trialGoesAs_20 ?_
        refine lv_iload_n hx hb dX0_trialGoesAs_23 rfl (lv_at hl 3 rfl) ?_
        refine xi_alz hx hb hK hP2 6 (s0 := seaN t1 j) rfl (i := r) ⟨by omega, by omega⟩ rfl dX0_trialGoesAs_24 ?_
        refine xi_i2l hx hb ⟨by omega, by omega⟩ dX0_trialGoesAs_25 ?_
        refine xl_c_eq (tgt := 32) hx hb (h5 _) ⟨by omega, by omega⟩ dX0_trialGoesAs_26 dX0_trialGoesAs_27 (by decide) (fun z2 => ?_) (fun z2 => ?_)
        · refine lv_aload_n hx hb dX0_trialGoesAs_32 rfl (lv_at hl 1 rfl) ?_
          refine xg_X0 hx hb hts hown hK hP0 0 rfl 1 (by decide) fk_X0_12 (v := .ref (d 0)) rfl dX0_trialGoesAs_33 ?_
          have hD : va_D (va_A (wF g a b d f1 ++ (wLs g b e1 e10 e11 ++ (wLs g d t1 t10 t11 ++ (wSs g sh m10 m11 m12)))) s.heap.size) (wF g a b d f1 ++ (wLs g d (seaN t1 j) x9 y9 ++ (wLs g b e1 e10 e11 ++ (wSs g sh m10 m11 m12)))) := D_perm (List.Perm.append_left _ (List.perm_append_comm_assoc _ _ _)) hD
          have hD : va_D (va_A (wF g a b d f1 ++ (wLs g b e1 e10 e11 ++ (wLs g d t1 t10 t11 ++ (wSs g sh m10 m11 m12)))) s.heap.size) (wLs g d (seaN t1 j) x9 y9 ++ (wF g a b d f1 ++ (wLs g b e1 e10 e11 ++ (wSs g sh m10 m11 m12)))) := D_perm (List.perm_append_comm_assoc _ _ _) hD
          have hP : va_P g.1 vwCl (wLs g d (seaN t1 j) x9 y9 ++ (wF g a b d f1 ++ (wLs g b e1 e10 e11 ++ (wSs g sh m10 m11 m12)))) H := va_P_app.mpr ⟨hP2, va_P_app.mpr ⟨hP0, va_P_app.mpr ⟨hP1, hP3⟩⟩⟩
          refine xmF_v (rVN (rest := []) hx hb hml hown hts hK hl (c_X1_goSeason l g d (seaN t1 j) x9 y9 H.size (show InvK 0 (seaN t1 j) from hsn.1) (show (seaN t1 j) 0 < 20000 from by omega)) lk_X0_36 ⟨rfl, hP2, (va_D_app hD).1.weaken (fun _ _ _ _ => trivial)⟩ (va_recv hK.1 hP2 (ci := 1) (q0 := 0) rfl rfl) rfl rfl rfl (Rm.of rfl) rfl rfl dX0_trialGoesAs_36) hP hD hS hA (fun u3 H locs hw hP hD hS => ?_)
          have hP : va_P g.1 vwCl (wLs g d (sea (seaN t1 j)) (u3 10) (u3 11) ++ (wF g a b d f1 ++ (wLs g b e1 e10 e11 ++ (wSs g sh m10 m11 m12)))) H := hP
          have hD : va_D (va_A (wF g a b d f1 ++ (wLs g b e1 e10 e11 ++ (wLs g d t1 t10 t11 ++ (wSs g sh m10 m11 m12)))) s.heap.size) (wLs g d (sea (seaN t1 j)) (u3 10) (u3 11) ++ (wF g a b d f1 ++ (wLs g b e1 e10 e11 ++ (wSs g sh m10 m11 m12)))) := hD
          obtain ⟨hP2, hPr0⟩ := va_P_app.mp hP
          obtain ⟨hP0, hPr1⟩ := va_P_app.mp hPr0
          obtain ⟨hP1, hP3⟩ := va_P_app.mp hPr1
          refine xi_inc (lv' := [(3, .int (iI ((j : Int) + 1))), (0, .ref (a 0)), (1, .ref (sh 2)), (2, .int (iI r))]) hx hb dX0_trialGoesAs_39 hl (k := 0) rfl (by decide) rfl (fun ls hl => ?_)
          refine lv_goto (tgt := 2) hx hb dX0_trialGoesAs_42 (by decide) ?_
          have hq4 : ((j : Int) + 1) = ((j + 1) : Int) := by omega
          have hl : lv_has ls 4 [(3, .int (iI ((j : Int) + 1))), (0, .ref (a 0)), (1, .ref (sh 2)), (2, .int (iI r))] := lv_sub hl [0, 1, 2, 3] rfl
          have hl := Eq.mp (congrArg (fun z9 => lv_has ls 4 [(3, .int (iI z9)), (0, .ref (a 0)), (1, .ref (sh 2)), (2, .int (iI r))]) hq4) hl
          have hq5 : (sea (seaN t1 j)) = (seaN t1 (j + 1)) := rfl
          have hP := Eq.mp (congrArg (fun z9 => va_P g.1 vwCl (wLs g d z9 (u3 10) (u3 11) ++ (wF g a b d f1 ++ (wLs g b e1 e10 e11 ++ (wSs g sh m10 m11 m12)))) H) hq5) hP
          have hD := Eq.mp (congrArg (fun z9 => va_D (va_A (wF g a b d f1 ++ (wLs g b e1 e10 e11 ++ (wLs g d t1 t10 t11 ++ (wSs g sh m10 m11 m12)))) s.heap.size) (wLs g d z9 (u3 10) (u3 11) ++ (wF g a b d f1 ++ (wLs g b e1 e10 e11 ++ (wSs g sh m10 m11 m12))))) hq5) hD
          obtain ⟨hP2, hPr0⟩ := va_P_app.mp hP
          obtain ⟨hP0, hPr1⟩ := va_P_app.mp hPr0
          obtain ⟨hP1, hP3⟩ := va_P_app.mp hPr1
          have hD : va_D (va_A (wF g a b d f1 ++ (wLs g b e1 e10 e11 ++ (wLs g d t1 t10 t11 ++ (wSs g sh m10 m11 m12)))) s.heap.size) (wF g a b d f1 ++ (wLs g d (seaN t1 (j + 1)) (u3 10) (u3 11) ++ (wLs g b e1 e10 e11 ++ (wSs g sh m10 m11 m12)))) := D_perm (List.perm_append_comm_assoc _ _ _) hD
          have hD : va_D (va_A (wF g a b d f1 ++ (wLs g b e1 e10 e11 ++ (wLs g d t1 t10 t11 ++ (wSs g sh m10 m11 m12)))) s.heap.size) (wF g a b d f1 ++ (wLs g b e1 e10 e11 ++ (wLs g d (seaN t1 (j + 1)) (u3 10) (u3 11) ++ (wSs g sh m10 m11 m12)))) := D_perm (List.Perm.append_left _ (List.perm_append_comm_assoc _ _ _)) hD
          have hP : va_P g.1 vwCl (wF g a b d f1 ++ (wLs g b e1 e10 e11 ++ (wLs g d (seaN t1 (j + 1)) (u3 10) (u3 11) ++ (wSs g sh m10 m11 m12)))) H := va_P_app.mpr ⟨hP0, va_P_app.mpr ⟨hP1, va_P_app.mpr ⟨hP2, hP3⟩⟩⟩
          exact ih2 (j + 1) (u3 10) (u3 11) (by omega) (by simp only [soT, Bool.and_eq_true, decide_eq_true_eq]; exact ⟨i2_2, by omega⟩) (by omega) ls hl H locs hP hD hS
        · refine lv_iconst (v := iI (0)) hx hb dX0_trialGoesAs_30 (by decide) ?_
          have hP : va_P g.1 vwCl (wF g a b d f1 ++ (wLs g b e1 e10 e11 ++ (wLs g d ((su (su (su (fun _ _ => 0) 201 (seaN t1 j)) 210 x9) 211 y9) 201) ((su (su (su (fun _ _ => 0) 201 (seaN t1 j)) 210 x9) 211 y9) 210) ((su (su (su (fun _ _ => 0) 201 (seaN t1 j)) 210 x9) 211 y9) 211) ++ (wSs g sh m10 m11 m12)))) H := hP
          have hD : va_D (va_A (wF g a b d f1 ++ (wLs g b e1 e10 e11 ++ (wLs g d t1 t10 t11 ++ (wSs g sh m10 m11 m12)))) s.heap.size) (wF g a b d f1 ++ (wLs g b e1 e10 e11 ++ (wLs g d ((su (su (su (fun _ _ => 0) 201 (seaN t1 j)) 210 x9) 211 y9) 201) ((su (su (su (fun _ _ => 0) 201 (seaN t1 j)) 210 x9) 211 y9) 210) ((su (su (su (fun _ _ => 0) 201 (seaN t1 j)) 210 x9) 211 y9) 211) ++ (wSs g sh m10 m11 m12)))) := hD
          exact W.zret hx hb hr (by decide) (fun t ht hW => ⟨⟨_, (su (su (su (fun _ _ => 0) 201 (seaN t1 j)) 210 x9) 211 y9), rfl, by rw [bI_f (fun z => by have := soT_le z (show j + 1 ≤ _ by omega); simp only [soT, Bool.and_eq_true, decide_eq_true_eq] at this; omega)], by rw [ht]; exact hP, hD⟩, hS.F ht⟩) hS.2.2 dX0_trialGoesAs_31
  have hq6 : 0 = (0 : Int) := rfl
  have hl : lv_has ls 4 [(3, .int (iI 0)), (0, .ref (a 0)), (1, .ref (sh 2)), (2, .int (iI r))] := lv_sub hl [0, 1, 2, 3] rfl
  have hl := Eq.mp (congrArg (fun z9 => lv_has ls 4 [(3, .int (iI z9)), (0, .ref (a 0)), (1, .ref (sh 2)), (2, .int (iI r))]) hq6) hl
  have hq7 : t1 = (seaN t1 0) := rfl
  have hP := Eq.mp (congrArg (fun z9 => va_P g.1 vwCl (wF g a b d f1 ++ (wLs g b e1 e10 e11 ++ (wLs g d z9 t10 t11 ++ (wSs g sh m10 m11 m12)))) s.heap) hq7) hP
  have hD := Eq.mp (congrArg (fun z9 => va_D (va_A (wF g a b d f1 ++ (wLs g b e1 e10 e11 ++ (wLs g d t1 t10 t11 ++ (wSs g sh m10 m11 m12)))) s.heap.size) (wF g a b d f1 ++ (wLs g b e1 e10 e11 ++ (wLs g d z9 t10 t11 ++ (wSs g sh m10 m11 m12))))) hq7) hD
  obtain ⟨hP0, hPr0⟩ := va_P_app.mp hP
  obtain ⟨hP1, hPr1⟩ := va_P_app.mp hPr0
  obtain ⟨hP2, hP3⟩ := va_P_app.mp hPr1
  exact lp2 (40 + 1) 0 t10 t11 (by omega) rfl (by omega) ls hl s.heap [] hP hD hS
set_option maxRecDepth 100000 in
set_option maxHeartbeats 4000000 in
theorem c_X0_matchingPairs1 (l : Launch) (g : Gd) (a : Nat → Nat) (f1 : Int → Int) (b : Nat → Nat) (e1 : Int → Int) (e10 : Int → Int) (e11 : Int → Int) (d : Nat → Nat) (t1 : Int → Int) (t10 : Int → Int) (t11 : Int → Int) (sh : Nat → Nat) (m10 : Int → Int) (m11 : Int → Int) (m12 : Int → Int) (r : Int) (sz : Nat) (h1 : InvK 0 e1) (h2 : e1 0 ≤ 9999) (h3 : 0 ≤ r ∧ r < e1 1) (h4 : 0 ≤ m11 1 ∧ m11 1 ≤ 40) (h5 : ∀ j, LR (m12 j)) : Met l yX0_matchingPairs (wsOf yX0_matchingPairs cX0_matchingPairs 6 (some .int)) rm_X0_matchingPairs (PX g (wP g (wF g a b d f1 ++ (wLs g b e1 e10 e11 ++ (wLs g d t1 t10 t11 ++ (wSs g sh m10 m11 m12)))) sz) [.ref (a 0), .ref (sh 2), .int (iI r)]) (QMi g (fun u9 : Nat → Int → Int => wF g a b d f1 ++ (wLs g b e1 e10 e11 ++ (wLs g d (u9 201) (u9 210) (u9 211) ++ (wSs g sh m10 m11 m12)))) (fun r9 _ => r9 = iI (rdO (rdV e1 m12 40 r (m11 1)) 10)) (va_A (wF g a b d f1 ++ (wLs g b e1 e10 e11 ++ (wLs g d t1 t10 t11 ++ (wSs g sh m10 m11 m12)))) sz)) 0 0 (va_A (wF g a b d f1 ++ (wLs g b e1 e10 e11 ++ (wLs g d t1 t10 t11 ++ (wSs g sh m10 m11 m12)))) sz) := by
  refine me (g := g) (by decide) rfl ?_
  intro pq eq s mq below meth cq C hnm hB ls hl
  obtain ⟨hx, hb, hr, hml, hown, hts, hlocks, hK⟩ := C
  have hown : s.vm.findClass RX0 = some mq.cls := hown
  have hl : lv_has ls 6 [(0, .ref (a 0)), (1, .ref (sh 2)), (2, .int (iI r))] := hl
  obtain ⟨hsz, hP, hD0⟩ := hB
  subst hsz
  have hD := hD0.self (sz := s.heap.size)
  have hA : ∀ q : Nat, s.heap.size ≤ q → va_A (wF g a b d f1 ++ (wLs g b e1 e10 e11 ++ (wLs g d t1 t10 t11 ++ (wSs g sh m10 m11 m12)))) s.heap.size q := fun q h => Or.inr h
  have hS : va_S (va_A (wF g a b d f1 ++ (wLs g b e1 e10 e11 ++ (wLs g d t1 t10 t11 ++ (wSs g sh m10 m11 m12)))) s.heap.size) s.heap s.heap [] := va_S.rf
  obtain ⟨hP0, hPr0⟩ := va_P_app.mp hP
  obtain ⟨hP1, hPr1⟩ := va_P_app.mp hPr0
  obtain ⟨hP2, hP3⟩ := va_P_app.mp hPr1
  have hI := h1
  have hI8 : Inv e1 := h1.mono (by omega)
  have hn := hI.num
  have hs := hI.sea
  have hv := hI.vil
  refine lv_iconst (v := iI (0)) hx hb dX0_matchingPairs_0 (by decide) ?_
  refine lv_istore_n (lv' := [(3, .int (iI 0)), (0, .ref (a 0)), (1, .ref (sh 2)), (2, .int (iI r))]) hx hb dX0_matchingPairs_1 rfl hl (by decide) rfl (fun ls hl => ?_)
  refine lv_iconst (v := iI (0)) hx hb dX0_matchingPairs_2 (by decide) ?_
  refine lv_istore (lv' := [(4, .int (iI 0)), (3, .int (iI 0)), (0, .ref (a 0)), (1, .ref (sh 2)), (2, .int (iI r))]) hx hb dX0_matchingPairs_3 hl (by decide) rfl (fun ls hl => ?_)
  have lp5 : ∀ (n5 : Nat) (h : Nat) (v9 : Int → Int) (x9 : Int → Int) (y9 : Int → Int), (h ≤ 10) → 10 - h < n5 → ∀ ls : Array Slot, lv_has ls 6 [(4, .int (iI (h : Int))), (3, .int (iI (rdO (rdV e1 m12 40 r (m11 1)) h))), (0, .ref (a 0)), (1, .ref (sh 2)), (2, .int (iI r))] → ∀ (H : Heap) (locs : List Loc), va_P g.1 vwCl (wF g a b d f1 ++ (wLs g b e1 e10 e11 ++ (wLs g d v9 x9 y9 ++ (wSs g sh m10 m11 m12)))) H → va_D (va_A (wF g a b d f1 ++ (wLs g b e1 e10 e11 ++ (wLs g d t1 t10 t11 ++ (wSs g sh m10 m11 m12)))) s.heap.size) (wF g a b d f1 ++ (wLs g b e1 e10 e11 ++ (wLs g d v9 x9 y9 ++ (wSs g sh m10 m11 m12)))) → va_S (va_A (wF g a b d f1 ++ (wLs g b e1 e10 e11 ++ (wLs g d t1 t10 t11 ++ (wSs g sh m10 m11 m12)))) s.heap.size) s.heap H locs → W pq l eq rm_X0_matchingPairs s mq [.ref (a 0), .ref (sh 2), .int (iI r)].toArray below meth cq H locs 0 0 (MQ below (QMi g (fun u9 : Nat → Int → Int => wF g a b d f1 ++ (wLs g b e1 e10 e11 ++ (wLs g d (u9 201) (u9 210) (u9 211) ++ (wSs g sh m10 m11 m12)))) (fun r9 _ => r9 = iI (rdO (rdV e1 m12 40 r (m11 1)) 10)) (va_A (wF g a b d f1 ++ (wLs g b e1 e10 e11 ++ (wLs g d t1 t10 t11 ++ (wSs g sh m10 m11 m12)))) s.heap.size)) [.ref (a 0), .ref (sh 2), .int (iI r)].toArray s 0 0 (va_A (wF g a b d f1 ++ (wLs g b e1 e10 e11 ++ (wLs g d t1 t10 t11 ++ (wSs g sh m10 m11 m12)))) s.heap.size)) (F0 mq 5 ls []) := by
    intro n5
    induction n5 with
    | zero => intro h v9 x9 y9 i5_1 hm; exact absurd hm (Nat.not_lt_zero _)
    | succ n5 ih5 =>
      intro h v9 x9 y9 i5_1 hm5 ls hl H locs hP hD hS
      obtain ⟨hP0, hPr0⟩ := va_P_app.mp hP
      obtain ⟨hP1, hPr1⟩ := va_P_app.mp hPr0
      obtain ⟨hP2, hP3⟩ := va_P_app.mp hPr1
      refine lv_iload hx hb dX0_matchingPairs_5 (lv_at hl 0 rfl) ?_
      refine lv_bipush (v := iI (9)) hx hb dX0_matchingPairs_7 (by decide) ?_
      refine xi_c_gt (tgt := 80) hx hb ⟨by omega, by omega⟩ ⟨by decide, by decide⟩ dX0_matchingPairs_9 (by decide) (fun z1 => ?_) (fun z1 => ?_)
      · refine lv_iload_n hx hb dX0_matchingPairs_80 rfl (lv_at hl 1 rfl) ?_
        have hP : va_P g.1 vwCl (wF g a b d f1 ++ (wLs g b e1 e10 e11 ++ (wLs g d ((su (su (su (fun _ _ => 0) 201 v9) 210 x9) 211 y9) 201) ((su (su (su (fun _ _ => 0) 201 v9) 210 x9) 211 y9) 210) ((su (su (su (fun _ _ => 0) 201 v9) 210 x9) 211 y9) 211) ++ (wSs g sh m10 m11 m12)))) H := hP
        have hD : va_D (va_A (wF g a b d f1 ++ (wLs g b e1 e10 e11 ++ (wLs g d t1 t10 t11 ++ (wSs g sh m10 m11 m12)))) s.heap.size) (wF g a b d f1 ++ (wLs g b e1 e10 e11 ++ (wLs g d ((su (su (su (fun _ _ => 0) 201 v9) 210 x9) 211 y9) 201) ((su (su (su (fun _ _ => 0) 201 v9) 210 x9) 211 y9) 210) ((su (su (su (fun _ _ => 0) 201 v9) 210 x9) 211 y9) 211) ++ (wSs g sh m10 m11 m12)))) := hD
        exact W.iret hx hb hr (fun t ht hW => ⟨⟨_, (su (su (su (fun _ _ => 0) 201 v9) 210 x9) 211 y9), rfl, congrArg iI (by rw [show h = 10 by omega]), by rw [ht]; exact hP, hD⟩, hS.F ht⟩) hS.2.2 dX0_matchingPairs_81
      · refine lv_bipush (v := iI (-9)) hx hb dX0_matchingPairs_12 (by decide) ?_
        refine lv_istore (lv' := [(5, .int (iI (-9))), (4, .int (iI (h : Int))), (3, .int (iI (rdO (rdV e1 m12 40 r (m11 1)) h))), (0, .ref (a 0)), (1, .ref (sh 2)), (2, .int (iI r))]) hx hb dX0_matchingPairs_14 hl (by decide) rfl (fun ls hl => ?_)
        have lp16 : ∀ (n16 : Nat) (w : Nat) (v8 : Int → Int) (x8 : Int → Int) (y8 : Int → Int), (w ≤ 19) → 19 - w < n16 → ∀ ls : Array Slot, lv_has ls 6 [(5, .int (iI ((w : Int) - 9))), (4, .int (iI (h : Int))), (3, .int (iI (rdI (rdV e1 m12 40 r (m11 1)) h (rdO (rdV e1 m12 40 r (m11 1)) h) w))), (0, .ref (a 0)), (1, .ref (sh 2)), (2, .int (iI r))] → ∀ (H : Heap) (locs : List Loc), va_P g.1 vwCl (wF g a b d f1 ++ (wLs g b e1 e10 e11 ++ (wLs g d v8 x8 y8 ++ (wSs g sh m10 m11 m12)))) H → va_D (va_A (wF g a b d f1 ++ (wLs g b e1 e10 e11 ++ (wLs g d t1 t10 t11 ++ (wSs g sh m10 m11 m12)))) s.heap.size) (wF g a b d f1 ++ (wLs g b e1 e10 e11 ++ (wLs g d v8 x8 y8 ++ (wSs g sh m10 m11 m12)))) → va_S (va_A (wF g a b d f1 ++ (wLs g b e1 e10 e11 ++ (wLs g d t1 t10 t11 ++ (wSs g sh m10 m11 m12)))) s.heap.size) s.heap H locs → W pq l eq rm_X0_matchingPairs s mq [.ref (a 0), .ref (sh 2), .int (iI r)].toArray below meth cq H locs 0 0 (MQ below (QMi g (fun u9 : Nat → Int → Int => wF g a b d f1 ++ (wLs g b e1 e10 e11 ++ (wLs g d (u9 201) (u9 210) (u9 211) ++ (wSs g sh m10 m11 m12)))) (fun r9 _ => r9 = iI (rdO (rdV e1 m12 40 r (m11 1)) 10)) (va_A (wF g a b d f1 ++ (wLs g b e1 e10 e11 ++ (wLs g d t1 t10 t11 ++ (wSs g sh m10 m11 m12)))) s.heap.size)) [.ref (a 0), .ref (sh 2), .int (iI r)].toArray s 0 0 (va_A (wF g a b d f1 ++ (wLs g b e1 e10 e11 ++ (wLs g d t1 t10 t11 ++ (wSs g sh m10 m11 m12)))) s.heap.size)) (F0 mq 16 ls []) := by
          intro n16
          induction n16 with
          | zero => intro w v8 x8 y8 i16_1 hm; exact absurd hm (Nat.not_lt_zero _)
          | succ n16 ih16 =>
            intro w v8 x8 y8 i16_1 hm16 ls hl H locs hP hD hS
            obtain ⟨hP0, hPr0⟩ := va_P_app.mp hP
            obtain ⟨hP1, hPr1⟩ := va_P_app.mp hPr0
            obtain ⟨hP2, hP3⟩ := va_P_app.mp hPr1
            refine lv_iload hx hb dX0_matchingPairs_16 (lv_at hl 0 rfl) ?_
            refine lv_bipush (v := iI (9)) hx hb dX0_matchingPairs_18 (by decide) ?_
            refine xi_c_gt (tgt := 74) hx hb ⟨by omega, by omega⟩ ⟨by decide, by decide⟩ dX0_matchingPairs_20 (by decide) (fun z2 => ?_) (fun z2 => ?_)
            · refine xi_inc (lv' := [(4, .int (iI ((h : Int) + 1))), (5, .int (iI ((w : Int) - 9))), (3, .int (iI (rdI (rdV e1 m12 40 r (m11 1)) h (rdO (rdV e1 m12 40 r (m11 1)) h) w))), (0, .ref (a 0)), (1, .ref (sh 2)), (2, .int (iI r))]) hx hb dX0_matchingPairs_74 hl (k := 1) rfl (by decide) rfl (fun ls hl => ?_)
              refine lv_goto (tgt := 5) hx hb dX0_matchingPairs_77 (by decide) ?_
              have hq3 : ((h : Int) + 1) = ((h + 1) : Int) := by omega
              have hq4 : (rdI (rdV e1 m12 40 r (m11 1)) h (rdO (rdV e1 m12 40 r (m11 1)) h) w) = (rdO (rdV e1 m12 40 r (m11 1)) (h + 1)) := by show _ = rdI (rdV e1 m12 40 r (m11 1)) h (rdO (rdV e1 m12 40 r (m11 1)) h) 19; rw [show w = 19 by omega]
              have hl : lv_has ls 6 [(4, .int (iI ((h : Int) + 1))), (3, .int (iI (rdI (rdV e1 m12 40 r (m11 1)) h (rdO (rdV e1 m12 40 r (m11 1)) h) w))), (0, .ref (a 0)), (1, .ref (sh 2)), (2, .int (iI r))] := lv_sub hl [0, 2, 3, 4, 5] rfl
              have hl := Eq.mp (congrArg (fun z9 => lv_has ls 6 [(4, .int (iI z9)), (3, .int (iI (rdI (rdV e1 m12 40 r (m11 1)) h (rdO (rdV e1 m12 40 r (m11 1)) h) w))), (0, .ref (a 0)), (1, .ref (sh 2)), (2, .int (iI r))]) hq3) hl
              have hl := Eq.mp (congrArg (fun z9 => lv_has ls 6 [(4, .int (iI ((h + 1) : Int))), (3, .int (iI z9)), (0, .ref (a 0)), (1, .ref (sh 2)), (2, .int (iI r))]) hq4) hl
              exact ih5 (h + 1) v8 x8 y8 (by omega) (by omega) ls hl H locs hP hD hS
            · have hIu : InvK 0 (up (up e1 (61 + 5 * r + 2) (h : Int)) (3 + 0) ((w : Int) - 9)) := (hI.oth (k2 := 0) (r := r) (w := 2) (v := (h : Int)) (by omega) (by omega) (by omega) (by omega) (by omega) ⟨by omega, by omega, by omega, by omega⟩).wgt (w := 0) (v := (w : Int) - 9) (by omega) (by omega) (by omega)
              refine lv_aload_n hx hb dX0_matchingPairs_23 rfl (lv_at hl 3 rfl) ?_
              refine xg_X0 hx hb hts hown hK hP0 0 rfl 1 (by decide) fk_X0_12 (v := .ref (d 0)) rfl dX0_matchingPairs_24 ?_
              refine lv_aload_n hx hb dX0_matchingPairs_27 rfl (lv_at hl 3 rfl) ?_
              refine xg_X0 hx hb hts hown hK hP0 0 rfl 0 (by decide) fk_X0_22 (v := .ref (b 0)) rfl dX0_matchingPairs_28 ?_
              have hD : va_D (va_A (wF g a b d f1 ++ (wLs g b e1 e10 e11 ++ (wLs g d t1 t10 t11 ++ (wSs g sh m10 m11 m12)))) s.heap.size) (wF g a b d f1 ++ (wLs g d v8 x8 y8 ++ (wLs g b e1 e10 e11 ++ (wSs g sh m10 m11 m12)))) := D_perm (List.Perm.append_left _ (List.perm_append_comm_assoc _ _ _)) hD
              have hD : va_D (va_A (wF g a b d f1 ++ (wLs g b e1 e10 e11 ++ (wLs g d t1 t10 t11 ++ (wSs g sh m10 m11 m12)))) s.heap.size) (wLs g d v8 x8 y8 ++ (wF g a b d f1 ++ (wLs g b e1 e10 e11 ++ (wSs g sh m10 m11 m12)))) := D_perm (List.perm_append_comm_assoc _ _ _) hD
              have hD : va_D (va_A (wF g a b d f1 ++ (wLs g b e1 e10 e11 ++ (wLs g d t1 t10 t11 ++ (wSs g sh m10 m11 m12)))) s.heap.size) (wLs g d v8 x8 y8 ++ (wLs g b e1 e10 e11 ++ (wF g a b d f1 ++ (wSs g sh m10 m11 m12)))) := D_perm (List.Perm.append_left _ (List.perm_append_comm_assoc _ _ _)) hD
              have hP : va_P g.1 vwCl (wLs g d v8 x8 y8 ++ (wLs g b e1 e10 e11 ++ (wF g a b d f1 ++ (wSs g sh m10 m11 m12)))) H := va_P_app.mpr ⟨hP2, va_P_app.mpr ⟨hP1, va_P_app.mpr ⟨hP0, hP3⟩⟩⟩
              have hP : va_P g.1 vwCl ((wLs g d v8 x8 y8 ++ (wLs g b e1 e10 e11)) ++ (wF g a b d f1 ++ (wSs g sh m10 m11 m12))) H := by rw [List.append_assoc]; exact hP
              have hD : va_D (va_A (wF g a b d f1 ++ (wLs g b e1 e10 e11 ++ (wLs g d t1 t10 t11 ++ (wSs g sh m10 m11 m12)))) s.heap.size) ((wLs g d v8 x8 y8 ++ (wLs g b e1 e10 e11)) ++ (wF g a b d f1 ++ (wSs g sh m10 m11 m12))) := by rw [List.append_assoc]; exact hD
              refine xmF_v (rVN (rest := []) hx hb hml hown hts hK hl (c_X1_becomes l g d v8 x8 y8 b e1 e10 e11 H.size ) lk_X0_25 ⟨rfl, (va_P_app.mp hP).1, (va_D_app hD).1.weaken (fun _ _ _ _ => trivial)⟩ (va_recv hK.1 hP2 (ci := 1) (q0 := 0) rfl rfl) rfl rfl rfl (Rm.of rfl) rfl rfl dX0_matchingPairs_31) hP hD hS hA (fun _ H locs hw hP hD hS => ?_)
              have hP : va_P g.1 vwCl ((wLs g d e1 x8 y8 ++ (wLs g b e1 e10 e11)) ++ (wF g a b d f1 ++ (wSs g sh m10 m11 m12))) H := hP
              have hD : va_D (va_A (wF g a b d f1 ++ (wLs g b e1 e10 e11 ++ (wLs g d t1 t10 t11 ++ (wSs g sh m10 m11 m12)))) s.heap.size) ((wLs g d e1 x8 y8 ++ (wLs g b e1 e10 e11)) ++ (wF g a b d f1 ++ (wSs g sh m10 m11 m12))) := hD
              rw [List.append_assoc] at hP hD
              have hP : va_P g.1 vwCl (wLs g d e1 x8 y8 ++ (wLs g b e1 e10 e11 ++ (wF g a b d f1 ++ (wSs g sh m10 m11 m12)))) H := hP
              have hD : va_D (va_A (wF g a b d f1 ++ (wLs g b e1 e10 e11 ++ (wLs g d t1 t10 t11 ++ (wSs g sh m10 m11 m12)))) s.heap.size) (wLs g d e1 x8 y8 ++ (wLs g b e1 e10 e11 ++ (wF g a b d f1 ++ (wSs g sh m10 m11 m12)))) := hD
              obtain ⟨hP2, hPr0⟩ := va_P_app.mp hP
              obtain ⟨hP1, hPr1⟩ := va_P_app.mp hPr0
              obtain ⟨hP0, hP3⟩ := va_P_app.mp hPr1
              refine lv_aload_n hx hb dX0_matchingPairs_34 rfl (lv_at hl 3 rfl) ?_
              refine xg_X0 hx hb hts hown hK hP0 0 rfl 1 (by decide) fk_X0_12 (v := .ref (d 0)) rfl dX0_matchingPairs_35 ?_
              refine xgN_X1 hx hb hts hown hK hP2 0 rfl 9 (by decide) fk_X0_66 (v := .ref (d 7)) rfl dX0_matchingPairs_38 ?_
              refine lv_iload_n hx hb dX0_matchingPairs_41 rfl (lv_at hl 5 rfl) ?_
              refine lv_iload hx hb dX0_matchingPairs_42 (lv_at hl 1 rfl) ?_
              refine xi_ast hx hb hK hP hD hS 7 (f := pz 2 e1) rfl (i := r) (v := (h : Int)) ⟨by omega, by omega⟩ rfl dX0_matchingPairs_44 (fun H locs hP hD hS => ?_)
              have hP := Eq.mp (congrArg (fun z9 : va_W => va_P g.1 vwCl (z9 ++ (wLs g b e1 e10 e11 ++ (wF g a b d f1 ++ (wSs g sh m10 m11 m12)))) H) (Ls_hastes (g := g) (a := d) (s := e1) (x10 := x8) (x11 := y8) (i := r) (v := (h : Int)) ⟨by omega, by omega⟩)) hP
              have hD := Eq.mp (congrArg (fun z9 : va_W => va_D (va_A (wF g a b d f1 ++ (wLs g b e1 e10 e11 ++ (wLs g d t1 t10 t11 ++ (wSs g sh m10 m11 m12)))) s.heap.size) (z9 ++ (wLs g b e1 e10 e11 ++ (wF g a b d f1 ++ (wSs g sh m10 m11 m12))))) (Ls_hastes (g := g) (a := d) (s := e1) (x10 := x8) (x11 := y8) (i := r) (v := (h : Int)) ⟨by omega, by omega⟩)) hD
              have hP : va_P g.1 vwCl (wLs g d (up e1 (61 + 5 * r + 2) (h : Int)) x8 y8 ++ (wLs g b e1 e10 e11 ++ (wF g a b d f1 ++ (wSs g sh m10 m11 m12)))) H := hP
              have hD : va_D (va_A (wF g a b d f1 ++ (wLs g b e1 e10 e11 ++ (wLs g d t1 t10 t11 ++ (wSs g sh m10 m11 m12)))) s.heap.size) (wLs g d (up e1 (61 + 5 * r + 2) (h : Int)) x8 y8 ++ (wLs g b e1 e10 e11 ++ (wF g a b d f1 ++ (wSs g sh m10 m11 m12)))) := hD
              obtain ⟨hP2, hPr0⟩ := va_P_app.mp hP
              obtain ⟨hP1, hPr1⟩ := va_P_app.mp hPr0
              obtain ⟨hP0, hP3⟩ := va_P_app.mp hPr1
              refine lv_aload_n hx hb dX0_matchingPairs_45 rfl (lv_at hl 3 rfl) ?_
              refine xg_X0 hx hb hts hown hK hP0 0 rfl 1 (by decide) fk_X0_12 (v := .ref (d 0)) rfl dX0_matchingPairs_46 ?_
              refine xgN_X1 hx hb hts hown hK hP2 0 rfl 6 (by decide) fk_X0_73 (v := .ref (d 4)) rfl dX0_matchingPairs_49 ?_
              refine lv_iconst (v := iI (0)) hx hb dX0_matchingPairs_52 (by decide) ?_
              refine lv_iload hx hb dX0_matchingPairs_53 (lv_at hl 0 rfl) ?_
              refine xi_ast hx hb hK hP hD hS 4 (f := pj 3 4 (up e1 (61 + 5 * r + 2) (h : Int))) rfl (i := 0) (v := (w : Int) - 9) ⟨by omega, by omega⟩ rfl dX0_matchingPairs_55 (fun H locs hP hD hS => ?_)
              have hP := Eq.mp (congrArg (fun z9 : va_W => va_P g.1 vwCl (z9 ++ (wLs g b e1 e10 e11 ++ (wF g a b d f1 ++ (wSs g sh m10 m11 m12)))) H) (Ls_weights (g := g) (a := d) (s := up e1 (61 + 5 * r + 2) (h : Int)) (x10 := x8) (x11 := y8) (i := 0) (v := (w : Int) - 9) ⟨by omega, by omega⟩)) hP
              have hD := Eq.mp (congrArg (fun z9 : va_W => va_D (va_A (wF g a b d f1 ++ (wLs g b e1 e10 e11 ++ (wLs g d t1 t10 t11 ++ (wSs g sh m10 m11 m12)))) s.heap.size) (z9 ++ (wLs g b e1 e10 e11 ++ (wF g a b d f1 ++ (wSs g sh m10 m11 m12))))) (Ls_weights (g := g) (a := d) (s := up e1 (61 + 5 * r + 2) (h : Int)) (x10 := x8) (x11 := y8) (i := 0) (v := (w : Int) - 9) ⟨by omega, by omega⟩)) hD
              have hP : va_P g.1 vwCl (wLs g d (up (up e1 (61 + 5 * r + 2) (h : Int)) (3 + 0) ((w : Int) - 9)) x8 y8 ++ (wLs g b e1 e10 e11 ++ (wF g a b d f1 ++ (wSs g sh m10 m11 m12)))) H := hP
              have hD : va_D (va_A (wF g a b d f1 ++ (wLs g b e1 e10 e11 ++ (wLs g d t1 t10 t11 ++ (wSs g sh m10 m11 m12)))) s.heap.size) (wLs g d (up (up e1 (61 + 5 * r + 2) (h : Int)) (3 + 0) ((w : Int) - 9)) x8 y8 ++ (wLs g b e1 e10 e11 ++ (wF g a b d f1 ++ (wSs g sh m10 m11 m12)))) := hD
              obtain ⟨hP2, hPr0⟩ := va_P_app.mp hP
              obtain ⟨hP1, hPr1⟩ := va_P_app.mp hPr0
              obtain ⟨hP0, hP3⟩ := va_P_app.mp hPr1
              refine lv_aload_n hx hb dX0_matchingPairs_56 rfl (lv_at hl 3 rfl) ?_
              refine lv_aload_n hx hb dX0_matchingPairs_57 rfl (lv_at hl 4 rfl) ?_
              refine lv_iload_n hx hb dX0_matchingPairs_58 rfl (lv_at hl 5 rfl) ?_
              have hD : va_D (va_A (wF g a b d f1 ++ (wLs g b e1 e10 e11 ++ (wLs g d t1 t10 t11 ++ (wSs g sh m10 m11 m12)))) s.heap.size) (wLs g d (up (up e1 (61 + 5 * r + 2) (h : Int)) (3 + 0) ((w : Int) - 9)) x8 y8 ++ (wF g a b d f1 ++ (wLs g b e1 e10 e11 ++ (wSs g sh m10 m11 m12)))) := D_perm (List.Perm.append_left _ (List.perm_append_comm_assoc _ _ _)) hD
              have hD : va_D (va_A (wF g a b d f1 ++ (wLs g b e1 e10 e11 ++ (wLs g d t1 t10 t11 ++ (wSs g sh m10 m11 m12)))) s.heap.size) (wF g a b d f1 ++ (wLs g d (up (up e1 (61 + 5 * r + 2) (h : Int)) (3 + 0) ((w : Int) - 9)) x8 y8 ++ (wLs g b e1 e10 e11 ++ (wSs g sh m10 m11 m12)))) := D_perm (List.perm_append_comm_assoc _ _ _) hD
              have hD : va_D (va_A (wF g a b d f1 ++ (wLs g b e1 e10 e11 ++ (wLs g d t1 t10 t11 ++ (wSs g sh m10 m11 m12)))) s.heap.size) (wF g a b d f1 ++ (wLs g b e1 e10 e11 ++ (wLs g d (up (up e1 (61 + 5 * r + 2) (h : Int)) (3 + 0) ((w : Int) - 9)) x8 y8 ++ (wSs g sh m10 m11 m12)))) := D_perm (List.Perm.append_left _ (List.perm_append_comm_assoc _ _ _)) hD
              have hP : va_P g.1 vwCl (wF g a b d f1 ++ (wLs g b e1 e10 e11 ++ (wLs g d (up (up e1 (61 + 5 * r + 2) (h : Int)) (3 + 0) ((w : Int) - 9)) x8 y8 ++ (wSs g sh m10 m11 m12)))) H := va_P_app.mpr ⟨hP0, va_P_app.mpr ⟨hP1, va_P_app.mpr ⟨hP2, hP3⟩⟩⟩
              refine xm_i (rV (rest := []) hx hb hml hown hts hK hl (c_X0_trialGoesAs1 l g a f1 b e1 e10 e11 d (up (up e1 (61 + 5 * r + 2) (h : Int)) (3 + 0) ((w : Int) - 9)) x8 y8 sh m10 m11 m12 r H.size (show InvK 0 (up (up e1 (61 + 5 * r + 2) (h : Int)) (3 + 0) ((w : Int) - 9)) from hIu) (show (up (up e1 (61 + 5 * r + 2) (h : Int)) (3 + 0) ((w : Int) - 9)) 0 ≤ 9999 from by rw [up_n (by omega), up_n (by omega)]; omega) (show 0 ≤ r ∧ r < (up (up e1 (61 + 5 * r + 2) (h : Int)) (3 + 0) ((w : Int) - 9)) 1 from ⟨by omega, by rw [up_n (by omega), up_n (by omega)]; omega⟩) (show 0 ≤ m11 1 ∧ m11 1 ≤ 40 from by omega) (show ∀ j, LR (m12 j) from h5)) lk_X0_122 ⟨rfl, hP, hD.weaken (fun _ _ _ _ => trivial)⟩ (va_recv hK.1 hP0 (ci := 0) (q0 := 0) rfl rfl) rfl rfl rfl (Rm.of rfl) rfl rfl dX0_matchingPairs_59) hD hS hA (fun x9 u6 H locs hw hP hD hS => ?_)
              obtain rfl : x9 = iI (bI (soT (up (up e1 (61 + 5 * r + 2) (h : Int)) (3 + 0) ((w : Int) - 9)) m12 40 r (Int.toNat (m11 1)) = true)) := hw
              have hP : va_P g.1 vwCl (wF g a b d f1 ++ (wLs g b e1 e10 e11 ++ (wLs g d (u6 201) (u6 210) (u6 211) ++ (wSs g sh m10 m11 m12)))) H := hP
              have hD : va_D (va_A (wF g a b d f1 ++ (wLs g b e1 e10 e11 ++ (wLs g d t1 t10 t11 ++ (wSs g sh m10 m11 m12)))) s.heap.size) (wF g a b d f1 ++ (wLs g b e1 e10 e11 ++ (wLs g d (u6 201) (u6 210) (u6 211) ++ (wSs g sh m10 m11 m12)))) := hD
              obtain ⟨hP0, hPr0⟩ := va_P_app.mp hP
              obtain ⟨hP1, hPr1⟩ := va_P_app.mp hPr0
              obtain ⟨hP2, hP3⟩ := va_P_app.mp hPr1
              rcases bI_or (soT (up (up e1 (61 + 5 * r + 2) (h : Int)) (3 + 0) ((w : Int) - 9)) m12 40 r (Int.toNat (m11 1)) = true) with ⟨z6, e6⟩ | ⟨z6, e6⟩
              · rw [e6]
                refine xi_zf_eq hx hb ⟨by decide, by decide⟩ (by decide) dX0_matchingPairs_62 ⟨68, by decide⟩ ?_
                refine xi_inc (lv' := [(3, .int (iI (rdI (rdV e1 m12 40 r (m11 1)) h (rdO (rdV e1 m12 40 r (m11 1)) h) w + 1))), (5, .int (iI ((w : Int) - 9))), (4, .int (iI (h : Int))), (0, .ref (a 0)), (1, .ref (sh 2)), (2, .int (iI r))]) hx hb dX0_matchingPairs_65 hl (k := 2) rfl (by decide) rfl (fun ls hl => ?_)
                refine xi_inc (lv' := [(5, .int (iI ((w : Int) - 9 + 1))), (3, .int (iI (rdI (rdV e1 m12 40 r (m11 1)) h (rdO (rdV e1 m12 40 r (m11 1)) h) w + 1))), (4, .int (iI (h : Int))), (0, .ref (a 0)), (1, .ref (sh 2)), (2, .int (iI r))]) hx hb dX0_matchingPairs_68 hl (k := 1) rfl (by decide) rfl (fun ls hl => ?_)
                refine lv_goto (tgt := 16) hx hb dX0_matchingPairs_71 (by decide) ?_
                have hq7 : ((w : Int) - 9 + 1) = (((w + 1) : Int) - 9) := by omega
                have hq8 : (rdI (rdV e1 m12 40 r (m11 1)) h (rdO (rdV e1 m12 40 r (m11 1)) h) w + 1) = (rdI (rdV e1 m12 40 r (m11 1)) h (rdO (rdV e1 m12 40 r (m11 1)) h) (w + 1)) := by show _ = rdI (rdV e1 m12 40 r (m11 1)) h (rdO (rdV e1 m12 40 r (m11 1)) h) w + (rdV e1 m12 40 r (m11 1)) h w; unfold rdV; first | (rw [if_pos (by assumption)]; done) | (rw [if_neg (by assumption)]; omega)
                have hl : lv_has ls 6 [(5, .int (iI ((w : Int) - 9 + 1))), (4, .int (iI (h : Int))), (3, .int (iI (rdI (rdV e1 m12 40 r (m11 1)) h (rdO (rdV e1 m12 40 r (m11 1)) h) w + 1))), (0, .ref (a 0)), (1, .ref (sh 2)), (2, .int (iI r))] := lv_sub hl [0, 2, 1, 3, 4, 5] rfl
                have hl := Eq.mp (congrArg (fun z9 => lv_has ls 6 [(5, .int (iI z9)), (4, .int (iI (h : Int))), (3, .int (iI (rdI (rdV e1 m12 40 r (m11 1)) h (rdO (rdV e1 m12 40 r (m11 1)) h) w + 1))), (0, .ref (a 0)), (1, .ref (sh 2)), (2, .int (iI r))]) hq7) hl
                have hl := Eq.mp (congrArg (fun z9 => lv_has ls 6 [(5, .int (iI (((w + 1) : Int) - 9))), (4, .int (iI (h : Int))), (3, .int (iI z9)), (0, .ref (a 0)), (1, .ref (sh 2)), (2, .int (iI r))]) hq8) hl
                exact ih16 (w + 1) (u6 201) (u6 210) (u6 211) (by omega) (by omega) ls hl H locs hP hD hS
              · rw [e6]
                refine xi_zt_eq (tgt := 68) hx hb ⟨by decide, by decide⟩ (by decide) dX0_matchingPairs_62 (by decide) ?_
                refine xi_inc (lv' := [(5, .int (iI ((w : Int) - 9 + 1))), (4, .int (iI (h : Int))), (3, .int (iI (rdI (rdV e1 m12 40 r (m11 1)) h (rdO (rdV e1 m12 40 r (m11 1)) h) w))), (0, .ref (a 0)), (1, .ref (sh 2)), (2, .int (iI r))]) hx hb dX0_matchingPairs_68 hl (k := 0) rfl (by decide) rfl (fun ls hl => ?_)
                refine lv_goto (tgt := 16) hx hb dX0_matchingPairs_71 (by decide) ?_
                have hq9 : ((w : Int) - 9 + 1) = (((w + 1) : Int) - 9) := by omega
                have hq10 : (rdI (rdV e1 m12 40 r (m11 1)) h (rdO (rdV e1 m12 40 r (m11 1)) h) w) = (rdI (rdV e1 m12 40 r (m11 1)) h (rdO (rdV e1 m12 40 r (m11 1)) h) (w + 1)) := by show _ = rdI (rdV e1 m12 40 r (m11 1)) h (rdO (rdV e1 m12 40 r (m11 1)) h) w + (rdV e1 m12 40 r (m11 1)) h w; unfold rdV; first | (rw [if_pos (by assumption)]; done) | (rw [if_neg (by assumption)]; omega)
                have hl : lv_has ls 6 [(5, .int (iI ((w : Int) - 9 + 1))), (4, .int (iI (h : Int))), (3, .int (iI (rdI (rdV e1 m12 40 r (m11 1)) h (rdO (rdV e1 m12 40 r (m11 1)) h) w))), (0, .ref (a 0)), (1, .ref (sh 2)), (2, .int (iI r))] := lv_sub hl [0, 1, 2, 3, 4, 5] rfl
                have hl := Eq.mp (congrArg (fun z9 => lv_has ls 6 [(5, .int (iI z9)), (4, .int (iI (h : Int))), (3, .int (iI (rdI (rdV e1 m12 40 r (m11 1)) h (rdO (rdV e1 m12 40 r (m11 1)) h) w))), (0, .ref (a 0)), (1, .ref (sh 2)), (2, .int (iI r))]) hq9) hl
                have hl := Eq.mp (congrArg (fun z9 => lv_has ls 6 [(5, .int (iI (((w + 1) : Int) - 9))), (4, .int (iI (h : Int))), (3, .int (iI z9)), (0, .ref (a 0)), (1, .ref (sh 2)), (2, .int (iI r))]) hq10) hl
                exact ih16 (w + 1) (u6 201) (u6 210) (u6 211) (by omega) (by omega) ls hl H locs hP hD hS
        have hq11 : (-9) = ((0 : Int) - 9) := rfl
        have hq12 : (rdO (rdV e1 m12 40 r (m11 1)) h) = (rdI (rdV e1 m12 40 r (m11 1)) h (rdO (rdV e1 m12 40 r (m11 1)) h) 0) := rfl
        have hl : lv_has ls 6 [(5, .int (iI (-9))), (4, .int (iI (h : Int))), (3, .int (iI (rdO (rdV e1 m12 40 r (m11 1)) h))), (0, .ref (a 0)), (1, .ref (sh 2)), (2, .int (iI r))] := lv_sub hl [0, 1, 2, 3, 4, 5] rfl
        have hl := Eq.mp (congrArg (fun z9 => lv_has ls 6 [(5, .int (iI z9)), (4, .int (iI (h : Int))), (3, .int (iI (rdO (rdV e1 m12 40 r (m11 1)) h))), (0, .ref (a 0)), (1, .ref (sh 2)), (2, .int (iI r))]) hq11) hl
        have hl := Eq.mp (congrArg (fun z9 => lv_has ls 6 [(5, .int (iI ((0 : Int) - 9))), (4, .int (iI (h : Int))), (3, .int (iI z9)), (0, .ref (a 0)), (1, .ref (sh 2)), (2, .int (iI r))]) hq12) hl
        exact lp16 (19 + 1) 0 v9 x9 y9 (by omega) (by omega) ls hl H locs hP hD hS
  have hq13 : 0 = (0 : Int) := rfl
  have hq14 : 0 = (rdO (rdV e1 m12 40 r (m11 1)) 0) := rfl
  have hl : lv_has ls 6 [(4, .int (iI 0)), (3, .int (iI 0)), (0, .ref (a 0)), (1, .ref (sh 2)), (2, .int (iI r))] := lv_sub hl [0, 1, 2, 3, 4] rfl
  have hl := Eq.mp (congrArg (fun z9 => lv_has ls 6 [(4, .int (iI z9)), (3, .int (iI 0)), (0, .ref (a 0)), (1, .ref (sh 2)), (2, .int (iI r))]) hq13) hl
  have hl := Eq.mp (congrArg (fun z9 => lv_has ls 6 [(4, .int (iI (0 : Int))), (3, .int (iI z9)), (0, .ref (a 0)), (1, .ref (sh 2)), (2, .int (iI r))]) hq14) hl
  exact lp5 (10 + 1) 0 t1 t10 t11 (by omega) (by omega) ls hl s.heap [] hP hD hS
set_option maxRecDepth 100000 in
set_option maxHeartbeats 4000000 in
theorem c_X0_bookCells2 (l : Launch) (g : Gd) (a : Nat → Nat) (f1 : Int → Int) (b : Nat → Nat) (e1 : Int → Int) (e10 : Int → Int) (e11 : Int → Int) (d : Nat → Nat) (t1 : Int → Int) (t10 : Int → Int) (t11 : Int → Int) (sh : Nat → Nat) (m10 : Int → Int) (m11 : Int → Int) (m12 : Int → Int) (r : Int) (sz : Nat) (h1 : InvK 0 e1) (h2 : e1 0 ≤ 9999) (h3 : 0 ≤ r ∧ r < e1 1) (h4 : 0 ≤ m11 2 ∧ m11 2 ≤ 40) (h5 : IR (m10 2)) : Met l yX0_bookCells (wsOf yX0_bookCells cX0_bookCells 4 none) rm_X0_bookCells (PX g (wP g (wF g a b d f1 ++ (wLs g b e1 e10 e11 ++ (wLs g d t1 t10 t11 ++ (wSs g sh m10 m11 m12)))) sz) [.ref (a 0), .ref (sh 4), .int (iI r)]) (QMv g (fun u9 : Nat → Int → Int => wF g a b d f1 ++ (wLs g b e1 e10 e11 ++ (wLs g d (u9 201) (u9 210) (u9 211) ++ (wSs g sh m10 m11 (bkT e1 m12 80 r (m11 2)))))) (fun _ => True) (va_A (wF g a b d f1 ++ (wLs g b e1 e10 e11 ++ (wLs g d t1 t10 t11 ++ (wSs g sh m10 m11 m12)))) sz)) 0 0 (va_A (wF g a b d f1 ++ (wLs g b e1 e10 e11 ++ (wLs g d t1 t10 t11 ++ (wSs g sh m10 m11 m12)))) sz) := by
  refine me (g := g) (by decide) rfl ?_
  intro pq eq s mq below meth cq C hnm hB ls hl
  obtain ⟨hx, hb, hr, hml, hown, hts, hlocks, hK⟩ := C
  have hown : s.vm.findClass RX0 = some mq.cls := hown
  have hl : lv_has ls 4 [(0, .ref (a 0)), (1, .ref (sh 4)), (2, .int (iI r))] := hl
  obtain ⟨hsz, hP, hD0⟩ := hB
  subst hsz
  have hD := hD0.self (sz := s.heap.size)
  have hA : ∀ q : Nat, s.heap.size ≤ q → va_A (wF g a b d f1 ++ (wLs g b e1 e10 e11 ++ (wLs g d t1 t10 t11 ++ (wSs g sh m10 m11 m12)))) s.heap.size q := fun q h => Or.inr h
  have hS : va_S (va_A (wF g a b d f1 ++ (wLs g b e1 e10 e11 ++ (wLs g d t1 t10 t11 ++ (wSs g sh m10 m11 m12)))) s.heap.size) s.heap s.heap [] := va_S.rf
  obtain ⟨hP0, hPr0⟩ := va_P_app.mp hP
  obtain ⟨hP1, hPr1⟩ := va_P_app.mp hPr0
  obtain ⟨hP2, hP3⟩ := va_P_app.mp hPr1
  have hI := h1
  have hI8 : Inv e1 := h1.mono (by omega)
  have hn := hI.num
  have hs := hI.sea
  have hv := hI.vil
  have hnw : ∀ v, 0 ≤ v → v ≤ 23 → nrw (m10 2) v = v := fun v h0 h1 => nrw_s h0 h1
  refine lv_aload_n hx hb dX0_bookCells_0 rfl (lv_at hl 0 rfl) ?_
  refine xg_X0 hx hb hts hown hK hP0 0 rfl 1 (by decide) fk_X0_12 (v := .ref (d 0)) rfl dX0_bookCells_1 ?_
  refine lv_aload_n hx hb dX0_bookCells_4 rfl (lv_at hl 0 rfl) ?_
  refine xg_X0 hx hb hts hown hK hP0 0 rfl 0 (by decide) fk_X0_22 (v := .ref (b 0)) rfl dX0_bookCells_5 ?_
  have hD : va_D (va_A (wF g a b d f1 ++ (wLs g b e1 e10 e11 ++ (wLs g d t1 t10 t11 ++ (wSs g sh m10 m11 m12)))) s.heap.size) (wF g a b d f1 ++ (wLs g d t1 t10 t11 ++ (wLs g b e1 e10 e11 ++ (wSs g sh m10 m11 m12)))) := D_perm (List.Perm.append_left _ (List.perm_append_comm_assoc _ _ _)) hD
  have hD : va_D (va_A (wF g a b d f1 ++ (wLs g b e1 e10 e11 ++ (wLs g d t1 t10 t11 ++ (wSs g sh m10 m11 m12)))) s.heap.size) (wLs g d t1 t10 t11 ++ (wF g a b d f1 ++ (wLs g b e1 e10 e11 ++ (wSs g sh m10 m11 m12)))) := D_perm (List.perm_append_comm_assoc _ _ _) hD
  have hD : va_D (va_A (wF g a b d f1 ++ (wLs g b e1 e10 e11 ++ (wLs g d t1 t10 t11 ++ (wSs g sh m10 m11 m12)))) s.heap.size) (wLs g d t1 t10 t11 ++ (wLs g b e1 e10 e11 ++ (wF g a b d f1 ++ (wSs g sh m10 m11 m12)))) := D_perm (List.Perm.append_left _ (List.perm_append_comm_assoc _ _ _)) hD
  have hP : va_P g.1 vwCl (wLs g d t1 t10 t11 ++ (wLs g b e1 e10 e11 ++ (wF g a b d f1 ++ (wSs g sh m10 m11 m12)))) s.heap := va_P_app.mpr ⟨hP2, va_P_app.mpr ⟨hP1, va_P_app.mpr ⟨hP0, hP3⟩⟩⟩
  have hP : va_P g.1 vwCl ((wLs g d t1 t10 t11 ++ (wLs g b e1 e10 e11)) ++ (wF g a b d f1 ++ (wSs g sh m10 m11 m12))) s.heap := by rw [List.append_assoc]; exact hP
  have hD : va_D (va_A (wF g a b d f1 ++ (wLs g b e1 e10 e11 ++ (wLs g d t1 t10 t11 ++ (wSs g sh m10 m11 m12)))) s.heap.size) ((wLs g d t1 t10 t11 ++ (wLs g b e1 e10 e11)) ++ (wF g a b d f1 ++ (wSs g sh m10 m11 m12))) := by rw [List.append_assoc]; exact hD
  refine xmF_v (rVN (rest := []) hx hb hml hown hts hK hl (c_X1_becomes l g d t1 t10 t11 b e1 e10 e11 (s.heap).size ) lk_X0_25 ⟨rfl, (va_P_app.mp hP).1, (va_D_app hD).1.weaken (fun _ _ _ _ => trivial)⟩ (va_recv hK.1 hP2 (ci := 1) (q0 := 0) rfl rfl) rfl rfl rfl (Rm.of rfl) rfl rfl dX0_bookCells_8) hP hD hS hA (fun _ H locs hw hP hD hS => ?_)
  have hP : va_P g.1 vwCl ((wLs g d e1 t10 t11 ++ (wLs g b e1 e10 e11)) ++ (wF g a b d f1 ++ (wSs g sh m10 m11 m12))) H := hP
  have hD : va_D (va_A (wF g a b d f1 ++ (wLs g b e1 e10 e11 ++ (wLs g d t1 t10 t11 ++ (wSs g sh m10 m11 m12)))) s.heap.size) ((wLs g d e1 t10 t11 ++ (wLs g b e1 e10 e11)) ++ (wF g a b d f1 ++ (wSs g sh m10 m11 m12))) := hD
  rw [List.append_assoc] at hP hD
  have hP : va_P g.1 vwCl (wLs g d e1 t10 t11 ++ (wLs g b e1 e10 e11 ++ (wF g a b d f1 ++ (wSs g sh m10 m11 m12)))) H := hP
  have hD : va_D (va_A (wF g a b d f1 ++ (wLs g b e1 e10 e11 ++ (wLs g d t1 t10 t11 ++ (wSs g sh m10 m11 m12)))) s.heap.size) (wLs g d e1 t10 t11 ++ (wLs g b e1 e10 e11 ++ (wF g a b d f1 ++ (wSs g sh m10 m11 m12)))) := hD
  obtain ⟨hP2, hPr0⟩ := va_P_app.mp hP
  obtain ⟨hP1, hPr1⟩ := va_P_app.mp hPr0
  obtain ⟨hP0, hP3⟩ := va_P_app.mp hPr1
  refine lv_iconst (v := iI (0)) hx hb dX0_bookCells_11 (by decide) ?_
  refine lv_istore_n (lv' := [(3, .int (iI 0)), (0, .ref (a 0)), (1, .ref (sh 4)), (2, .int (iI r))]) hx hb dX0_bookCells_12 rfl hl (by decide) rfl (fun ls hl => ?_)
  have lp13 : ∀ (n13 : Nat) (j : Nat) (x9 : Int → Int) (y9 : Int → Int), ((j : Int) ≤ m11 2) → 40 - j < n13 → ∀ ls : Array Slot, lv_has ls 4 [(3, .int (iI (j : Int))), (0, .ref (a 0)), (1, .ref (sh 4)), (2, .int (iI r))] → ∀ (H : Heap) (locs : List Loc), va_P g.1 vwCl (wLs g d (seaN e1 j) x9 y9 ++ (wLs g b e1 e10 e11 ++ (wF g a b d f1 ++ (wSs g sh m10 m11 (bkT e1 m12 80 r (((j) : Nat) : Int)))))) H → va_D (va_A (wF g a b d f1 ++ (wLs g b e1 e10 e11 ++ (wLs g d t1 t10 t11 ++ (wSs g sh m10 m11 m12)))) s.heap.size) (wLs g d (seaN e1 j) x9 y9 ++ (wLs g b e1 e10 e11 ++ (wF g a b d f1 ++ (wSs g sh m10 m11 (bkT e1 m12 80 r (((j) : Nat) : Int)))))) → va_S (va_A (wF g a b d f1 ++ (wLs g b e1 e10 e11 ++ (wLs g d t1 t10 t11 ++ (wSs g sh m10 m11 m12)))) s.heap.size) s.heap H locs → W pq l eq rm_X0_bookCells s mq [.ref (a 0), .ref (sh 4), .int (iI r)].toArray below meth cq H locs 0 0 (MQ below (QMv g (fun u9 : Nat → Int → Int => wF g a b d f1 ++ (wLs g b e1 e10 e11 ++ (wLs g d (u9 201) (u9 210) (u9 211) ++ (wSs g sh m10 m11 (bkT e1 m12 80 r (m11 2)))))) (fun _ => True) (va_A (wF g a b d f1 ++ (wLs g b e1 e10 e11 ++ (wLs g d t1 t10 t11 ++ (wSs g sh m10 m11 m12)))) s.heap.size)) [.ref (a 0), .ref (sh 4), .int (iI r)].toArray s 0 0 (va_A (wF g a b d f1 ++ (wLs g b e1 e10 e11 ++ (wLs g d t1 t10 t11 ++ (wSs g sh m10 m11 m12)))) s.heap.size)) (F0 mq 13 ls []) := by
    intro n13
    induction n13 with
    | zero => intro j x9 y9 i13_1 hm; exact absurd hm (Nat.not_lt_zero _)
    | succ n13 ih13 =>
      intro j x9 y9 i13_1 hm13 ls hl H locs hP hD hS
      have hsn := seaN_inv hI j (by omega)
      have hs0 := hsn.2.1
      have hs1 := hsn.2.2 1 (by omega) (by omega)
      have hcr := hsn.1.ran r (by omega) (by omega)
      obtain ⟨hP2, hPr0⟩ := va_P_app.mp hP
      obtain ⟨hP1, hPr1⟩ := va_P_app.mp hPr0
      obtain ⟨hP0, hP3⟩ := va_P_app.mp hPr1
      refine lv_iload_n hx hb dX0_bookCells_13 rfl (lv_at hl 0 rfl) ?_
      refine lv_aload_n hx hb dX0_bookCells_14 rfl (lv_at hl 2 rfl) ?_
      refine xgN_X2 hx hb hts hown hK hP3 4 rfl 2 (by decide) fk_X0_113 (v := .int (iI (m11 2))) rfl dX0_bookCells_15 ?_
      refine xi_c_ge (tgt := 49) hx hb ⟨by omega, by omega⟩ ⟨by omega, by omega⟩ dX0_bookCells_18 (by decide) (fun z2 => ?_) (fun z2 => ?_)
      · have hD : va_D (va_A (wF g a b d f1 ++ (wLs g b e1 e10 e11 ++ (wLs g d t1 t10 t11 ++ (wSs g sh m10 m11 m12)))) s.heap.size) (wLs g d (seaN e1 j) x9 y9 ++ (wF g a b d f1 ++ (wLs g b e1 e10 e11 ++ (wSs g sh m10 m11 (bkT e1 m12 80 r (((j) : Nat) : Int)))))) := D_perm (List.Perm.append_left _ (List.perm_append_comm_assoc _ _ _)) hD
        have hD : va_D (va_A (wF g a b d f1 ++ (wLs g b e1 e10 e11 ++ (wLs g d t1 t10 t11 ++ (wSs g sh m10 m11 m12)))) s.heap.size) (wF g a b d f1 ++ (wLs g d (seaN e1 j) x9 y9 ++ (wLs g b e1 e10 e11 ++ (wSs g sh m10 m11 (bkT e1 m12 80 r (((j) : Nat) : Int)))))) := D_perm (List.perm_append_comm_assoc _ _ _) hD
        have hD : va_D (va_A (wF g a b d f1 ++ (wLs g b e1 e10 e11 ++ (wLs g d t1 t10 t11 ++ (wSs g sh m10 m11 m12)))) s.heap.size) (wF g a b d f1 ++ (wLs g b e1 e10 e11 ++ (wLs g d (seaN e1 j) x9 y9 ++ (wSs g sh m10 m11 (bkT e1 m12 80 r (((j) : Nat) : Int)))))) := D_perm (List.Perm.append_left _ (List.perm_append_comm_assoc _ _ _)) hD
        have hP : va_P g.1 vwCl (wF g a b d f1 ++ (wLs g b e1 e10 e11 ++ (wLs g d (seaN e1 j) x9 y9 ++ (wSs g sh m10 m11 (bkT e1 m12 80 r (((j) : Nat) : Int)))))) H := va_P_app.mpr ⟨hP0, va_P_app.mpr ⟨hP1, va_P_app.mpr ⟨hP2, hP3⟩⟩⟩
        have he3 : (bkT e1 m12 80 r (((j) : Nat) : Int)) = (bkT e1 m12 80 r (m11 2)) := by rw [show ((j : Nat) : Int) = m11 2 by omega]
        have hP := Eq.mp (congrArg (fun z9 => va_P g.1 vwCl (wF g a b d f1 ++ (wLs g b e1 e10 e11 ++ (wLs g d (seaN e1 j) x9 y9 ++ (wSs g sh m10 m11 z9)))) H) he3) hP
        have hD := Eq.mp (congrArg (fun z9 => va_D (va_A (wF g a b d f1 ++ (wLs g b e1 e10 e11 ++ (wLs g d t1 t10 t11 ++ (wSs g sh m10 m11 m12)))) s.heap.size) (wF g a b d f1 ++ (wLs g b e1 e10 e11 ++ (wLs g d (seaN e1 j) x9 y9 ++ (wSs g sh m10 m11 z9))))) he3) hD
        obtain ⟨hP0, hPr0⟩ := va_P_app.mp hP
        obtain ⟨hP1, hPr1⟩ := va_P_app.mp hPr0
        obtain ⟨hP2, hP3⟩ := va_P_app.mp hPr1
        have hP : va_P g.1 vwCl (wF g a b d f1 ++ (wLs g b e1 e10 e11 ++ (wLs g d ((su (su (su (fun _ _ => 0) 201 (seaN e1 j)) 210 x9) 211 y9) 201) ((su (su (su (fun _ _ => 0) 201 (seaN e1 j)) 210 x9) 211 y9) 210) ((su (su (su (fun _ _ => 0) 201 (seaN e1 j)) 210 x9) 211 y9) 211) ++ (wSs g sh m10 m11 (bkT e1 m12 80 r (m11 2)))))) H := hP
        have hD : va_D (va_A (wF g a b d f1 ++ (wLs g b e1 e10 e11 ++ (wLs g d t1 t10 t11 ++ (wSs g sh m10 m11 m12)))) s.heap.size) (wF g a b d f1 ++ (wLs g b e1 e10 e11 ++ (wLs g d ((su (su (su (fun _ _ => 0) 201 (seaN e1 j)) 210 x9) 211 y9) 201) ((su (su (su (fun _ _ => 0) 201 (seaN e1 j)) 210 x9) 211 y9) 210) ((su (su (su (fun _ _ => 0) 201 (seaN e1 j)) 210 x9) 211 y9) 211) ++ (wSs g sh m10 m11 (bkT e1 m12 80 r (m11 2)))))) := hD
        exact W.vret hx hb hr (fun t ht hW => ⟨⟨(su (su (su (fun _ _ => 0) 201 (seaN e1 j)) 210 x9) 211 y9), rfl, trivial, by rw [ht]; exact hP, hD⟩, hS.F ht⟩) hS.2.2 dX0_bookCells_49
      · refine lv_aload_n hx hb dX0_bookCells_21 rfl (lv_at hl 2 rfl) ?_
        refine lv_iload_n hx hb dX0_bookCells_22 rfl (lv_at hl 0 rfl) ?_
        refine lv_aload_n hx hb dX0_bookCells_23 rfl (lv_at hl 1 rfl) ?_
        refine xg_X0 hx hb hts hown hK hP0 0 rfl 1 (by decide) fk_X0_12 (v := .ref (d 0)) rfl dX0_bookCells_24 ?_
        refine xgN_X1 hx hb hts hown hK hP2 0 rfl 8 (by decide) fk_X0_33 (v := .ref (d 6)) rfl dX0_bookCells_27 ?_
        refine lv_iload_n hx hb dX0_bookCells_30 rfl (lv_at hl 3 rfl) ?_
        refine xi_alz hx hb hK hP2 6 (s0 := seaN e1 j) rfl (i := r) ⟨by omega, by omega⟩ rfl dX0_bookCells_31 ?_
        refine xi_i2l hx hb ⟨by omega, by omega⟩ dX0_bookCells_32 ?_
        have hD : va_D (va_A (wF g a b d f1 ++ (wLs g b e1 e10 e11 ++ (wLs g d t1 t10 t11 ++ (wSs g sh m10 m11 m12)))) s.heap.size) (wLs g d (seaN e1 j) x9 y9 ++ (wLs g b e1 e10 e11 ++ (wSs g sh m10 m11 (bkT e1 m12 80 r (((j) : Nat) : Int)) ++ (wF g a b d f1)))) := D_perm (List.Perm.append_left _ (List.Perm.append_left _ (List.perm_append_comm))) hD
        have hD : va_D (va_A (wF g a b d f1 ++ (wLs g b e1 e10 e11 ++ (wLs g d t1 t10 t11 ++ (wSs g sh m10 m11 m12)))) s.heap.size) (wLs g d (seaN e1 j) x9 y9 ++ (wSs g sh m10 m11 (bkT e1 m12 80 r (((j) : Nat) : Int)) ++ (wLs g b e1 e10 e11 ++ (wF g a b d f1)))) := D_perm (List.Perm.append_left _ (List.perm_append_comm_assoc _ _ _)) hD
        have hD : va_D (va_A (wF g a b d f1 ++ (wLs g b e1 e10 e11 ++ (wLs g d t1 t10 t11 ++ (wSs g sh m10 m11 m12)))) s.heap.size) (wSs g sh m10 m11 (bkT e1 m12 80 r (((j) : Nat) : Int)) ++ (wLs g d (seaN e1 j) x9 y9 ++ (wLs g b e1 e10 e11 ++ (wF g a b d f1)))) := D_perm (List.perm_append_comm_assoc _ _ _) hD
        have hP : va_P g.1 vwCl (wSs g sh m10 m11 (bkT e1 m12 80 r (((j) : Nat) : Int)) ++ (wLs g d (seaN e1 j) x9 y9 ++ (wLs g b e1 e10 e11 ++ (wF g a b d f1)))) H := va_P_app.mpr ⟨hP3, va_P_app.mpr ⟨hP2, va_P_app.mpr ⟨hP1, hP0⟩⟩⟩
        refine xmF_v (rVN (rest := []) hx hb hml hown hts hK hl (c_X2_put2 l g sh m10 m11 (bkT e1 m12 80 r (((j) : Nat) : Int)) (j : Int) ((seaN e1 j) (61 + 5 * r + 1)) H.size (show IR (m10 2) from h5) (show 0 ≤ (j : Int) ∧ (j : Int) < 40 from by omega)) lk_X0_118 ⟨rfl, hP3, (va_D_app hD).1.weaken (fun _ _ _ _ => trivial)⟩ (va_recv hK.1 hP3 (ci := 2) (q0 := 4) rfl rfl) rfl rfl rfl (Rm.of rfl) rfl rfl dX0_bookCells_33) hP hD hS hA (fun _ H locs hw hP hD hS => ?_)
        have hP : va_P g.1 vwCl (wSs g sh m10 m11 (up (bkT e1 m12 80 r (((j) : Nat) : Int)) (80 + (j : Int)) (nrw (m10 2) ((seaN e1 j) (61 + 5 * r + 1)))) ++ (wLs g d (seaN e1 j) x9 y9 ++ (wLs g b e1 e10 e11 ++ (wF g a b d f1)))) H := hP
        have hD : va_D (va_A (wF g a b d f1 ++ (wLs g b e1 e10 e11 ++ (wLs g d t1 t10 t11 ++ (wSs g sh m10 m11 m12)))) s.heap.size) (wSs g sh m10 m11 (up (bkT e1 m12 80 r (((j) : Nat) : Int)) (80 + (j : Int)) (nrw (m10 2) ((seaN e1 j) (61 + 5 * r + 1)))) ++ (wLs g d (seaN e1 j) x9 y9 ++ (wLs g b e1 e10 e11 ++ (wF g a b d f1)))) := hD
        obtain ⟨hP3, hPr0⟩ := va_P_app.mp hP
        obtain ⟨hP2, hPr1⟩ := va_P_app.mp hPr0
        obtain ⟨hP1, hP0⟩ := va_P_app.mp hPr1
        refine lv_aload_n hx hb dX0_bookCells_36 rfl (lv_at hl 1 rfl) ?_
        refine xg_X0 hx hb hts hown hK hP0 0 rfl 1 (by decide) fk_X0_12 (v := .ref (d 0)) rfl dX0_bookCells_37 ?_
        have hD : va_D (va_A (wF g a b d f1 ++ (wLs g b e1 e10 e11 ++ (wLs g d t1 t10 t11 ++ (wSs g sh m10 m11 m12)))) s.heap.size) (wLs g d (seaN e1 j) x9 y9 ++ (wSs g sh m10 m11 (up (bkT e1 m12 80 r (((j) : Nat) : Int)) (80 + (j : Int)) (nrw (m10 2) ((seaN e1 j) (61 + 5 * r + 1)))) ++ (wLs g b e1 e10 e11 ++ (wF g a b d f1)))) := D_perm (List.perm_append_comm_assoc _ _ _) hD
        have hP : va_P g.1 vwCl (wLs g d (seaN e1 j) x9 y9 ++ (wSs g sh m10 m11 (up (bkT e1 m12 80 r (((j) : Nat) : Int)) (80 + (j : Int)) (nrw (m10 2) ((seaN e1 j) (61 + 5 * r + 1)))) ++ (wLs g b e1 e10 e11 ++ (wF g a b d f1)))) H := va_P_app.mpr ⟨hP2, va_P_app.mpr ⟨hP3, va_P_app.mpr ⟨hP1, hP0⟩⟩⟩
        refine xmF_v (rVN (rest := []) hx hb hml hown hts hK hl (c_X1_goSeason l g d (seaN e1 j) x9 y9 H.size (show InvK 0 (seaN e1 j) from hsn.1) (show (seaN e1 j) 0 < 20000 from by omega)) lk_X0_36 ⟨rfl, hP2, (va_D_app hD).1.weaken (fun _ _ _ _ => trivial)⟩ (va_recv hK.1 hP2 (ci := 1) (q0 := 0) rfl rfl) rfl rfl rfl (Rm.of rfl) rfl rfl dX0_bookCells_40) hP hD hS hA (fun u5 H locs hw hP hD hS => ?_)
        have hP : va_P g.1 vwCl (wLs g d (sea (seaN e1 j)) (u5 10) (u5 11) ++ (wSs g sh m10 m11 (up (bkT e1 m12 80 r (((j) : Nat) : Int)) (80 + (j : Int)) (nrw (m10 2) ((seaN e1 j) (61 + 5 * r + 1)))) ++ (wLs g b e1 e10 e11 ++ (wF g a b d f1)))) H := hP
        have hD : va_D (va_A (wF g a b d f1 ++ (wLs g b e1 e10 e11 ++ (wLs g d t1 t10 t11 ++ (wSs g sh m10 m11 m12)))) s.heap.size) (wLs g d (sea (seaN e1 j)) (u5 10) (u5 11) ++ (wSs g sh m10 m11 (up (bkT e1 m12 80 r (((j) : Nat) : Int)) (80 + (j : Int)) (nrw (m10 2) ((seaN e1 j) (61 + 5 * r + 1)))) ++ (wLs g b e1 e10 e11 ++ (wF g a b d f1)))) := hD
        obtain ⟨hP2, hPr0⟩ := va_P_app.mp hP
        obtain ⟨hP3, hPr1⟩ := va_P_app.mp hPr0
        obtain ⟨hP1, hP0⟩ := va_P_app.mp hPr1
        refine xi_inc (lv' := [(3, .int (iI ((j : Int) + 1))), (0, .ref (a 0)), (1, .ref (sh 4)), (2, .int (iI r))]) hx hb dX0_bookCells_43 hl (k := 0) rfl (by decide) rfl (fun ls hl => ?_)
        refine lv_goto (tgt := 13) hx hb dX0_bookCells_46 (by decide) ?_
        have hq6 : ((j : Int) + 1) = ((j + 1) : Int) := by omega
        have hl : lv_has ls 4 [(3, .int (iI ((j : Int) + 1))), (0, .ref (a 0)), (1, .ref (sh 4)), (2, .int (iI r))] := lv_sub hl [0, 1, 2, 3] rfl
        have hl := Eq.mp (congrArg (fun z9 => lv_has ls 4 [(3, .int (iI z9)), (0, .ref (a 0)), (1, .ref (sh 4)), (2, .int (iI r))]) hq6) hl
        have hq7 : (sea (seaN e1 j)) = (seaN e1 (j + 1)) := rfl
        have hP := Eq.mp (congrArg (fun z9 => va_P g.1 vwCl (wLs g d z9 (u5 10) (u5 11) ++ (wSs g sh m10 m11 (up (bkT e1 m12 80 r (((j) : Nat) : Int)) (80 + (j : Int)) (nrw (m10 2) ((seaN e1 j) (61 + 5 * r + 1)))) ++ (wLs g b e1 e10 e11 ++ (wF g a b d f1)))) H) hq7) hP
        have hD := Eq.mp (congrArg (fun z9 => va_D (va_A (wF g a b d f1 ++ (wLs g b e1 e10 e11 ++ (wLs g d t1 t10 t11 ++ (wSs g sh m10 m11 m12)))) s.heap.size) (wLs g d z9 (u5 10) (u5 11) ++ (wSs g sh m10 m11 (up (bkT e1 m12 80 r (((j) : Nat) : Int)) (80 + (j : Int)) (nrw (m10 2) ((seaN e1 j) (61 + 5 * r + 1)))) ++ (wLs g b e1 e10 e11 ++ (wF g a b d f1))))) hq7) hD
        obtain ⟨hP2, hPr0⟩ := va_P_app.mp hP
        obtain ⟨hP3, hPr1⟩ := va_P_app.mp hPr0
        obtain ⟨hP1, hP0⟩ := va_P_app.mp hPr1
        have hq8 : (up (bkT e1 m12 80 r (((j) : Nat) : Int)) (80 + (j : Int)) (nrw (m10 2) ((seaN e1 j) (61 + 5 * r + 1)))) = (bkT e1 m12 80 r ((((j + 1)) : Nat) : Int)) := by rw [← bkT_S e1 m12 80 r j]; congr 1; exact hnw _ (by omega) (by omega)
        have hP := Eq.mp (congrArg (fun z9 => va_P g.1 vwCl (wLs g d (seaN e1 (j + 1)) (u5 10) (u5 11) ++ (wSs g sh m10 m11 z9 ++ (wLs g b e1 e10 e11 ++ (wF g a b d f1)))) H) hq8) hP
        have hD := Eq.mp (congrArg (fun z9 => va_D (va_A (wF g a b d f1 ++ (wLs g b e1 e10 e11 ++ (wLs g d t1 t10 t11 ++ (wSs g sh m10 m11 m12)))) s.heap.size) (wLs g d (seaN e1 (j + 1)) (u5 10) (u5 11) ++ (wSs g sh m10 m11 z9 ++ (wLs g b e1 e10 e11 ++ (wF g a b d f1))))) hq8) hD
        obtain ⟨hP2, hPr0⟩ := va_P_app.mp hP
        obtain ⟨hP3, hPr1⟩ := va_P_app.mp hPr0
        obtain ⟨hP1, hP0⟩ := va_P_app.mp hPr1
        have hD : va_D (va_A (wF g a b d f1 ++ (wLs g b e1 e10 e11 ++ (wLs g d t1 t10 t11 ++ (wSs g sh m10 m11 m12)))) s.heap.size) (wLs g d (seaN e1 (j + 1)) (u5 10) (u5 11) ++ (wLs g b e1 e10 e11 ++ (wSs g sh m10 m11 (bkT e1 m12 80 r ((((j + 1)) : Nat) : Int)) ++ (wF g a b d f1)))) := D_perm (List.Perm.append_left _ (List.perm_append_comm_assoc _ _ _)) hD
        have hD : va_D (va_A (wF g a b d f1 ++ (wLs g b e1 e10 e11 ++ (wLs g d t1 t10 t11 ++ (wSs g sh m10 m11 m12)))) s.heap.size) (wLs g d (seaN e1 (j + 1)) (u5 10) (u5 11) ++ (wLs g b e1 e10 e11 ++ (wF g a b d f1 ++ (wSs g sh m10 m11 (bkT e1 m12 80 r ((((j + 1)) : Nat) : Int)))))) := D_perm (List.Perm.append_left _ (List.Perm.append_left _ (List.perm_append_comm))) hD
        have hP : va_P g.1 vwCl (wLs g d (seaN e1 (j + 1)) (u5 10) (u5 11) ++ (wLs g b e1 e10 e11 ++ (wF g a b d f1 ++ (wSs g sh m10 m11 (bkT e1 m12 80 r ((((j + 1)) : Nat) : Int)))))) H := va_P_app.mpr ⟨hP2, va_P_app.mpr ⟨hP1, va_P_app.mpr ⟨hP0, hP3⟩⟩⟩
        exact ih13 (j + 1) (u5 10) (u5 11) (by omega) (by omega) ls hl H locs hP hD hS
  have hq9 : 0 = (0 : Int) := rfl
  have hl : lv_has ls 4 [(3, .int (iI 0)), (0, .ref (a 0)), (1, .ref (sh 4)), (2, .int (iI r))] := lv_sub hl [0, 1, 2, 3] rfl
  have hl := Eq.mp (congrArg (fun z9 => lv_has ls 4 [(3, .int (iI z9)), (0, .ref (a 0)), (1, .ref (sh 4)), (2, .int (iI r))]) hq9) hl
  have hq10 : e1 = (seaN e1 0) := rfl
  have hP := Eq.mp (congrArg (fun z9 => va_P g.1 vwCl (wLs g d z9 t10 t11 ++ (wLs g b e1 e10 e11 ++ (wF g a b d f1 ++ (wSs g sh m10 m11 m12)))) H) hq10) hP
  have hD := Eq.mp (congrArg (fun z9 => va_D (va_A (wF g a b d f1 ++ (wLs g b e1 e10 e11 ++ (wLs g d t1 t10 t11 ++ (wSs g sh m10 m11 m12)))) s.heap.size) (wLs g d z9 t10 t11 ++ (wLs g b e1 e10 e11 ++ (wF g a b d f1 ++ (wSs g sh m10 m11 m12))))) hq10) hD
  obtain ⟨hP2, hPr0⟩ := va_P_app.mp hP
  obtain ⟨hP1, hPr1⟩ := va_P_app.mp hPr0
  obtain ⟨hP0, hP3⟩ := va_P_app.mp hPr1
  have hq11 : m12 = (bkT e1 m12 80 r (((0) : Nat) : Int)) := bkT_0 e1 m12 80 r
  have hP := Eq.mp (congrArg (fun z9 => va_P g.1 vwCl (wLs g d (seaN e1 0) t10 t11 ++ (wLs g b e1 e10 e11 ++ (wF g a b d f1 ++ (wSs g sh m10 m11 z9)))) H) hq11) hP
  have hD := Eq.mp (congrArg (fun z9 => va_D (va_A (wF g a b d f1 ++ (wLs g b e1 e10 e11 ++ (wLs g d t1 t10 t11 ++ (wSs g sh m10 m11 m12)))) s.heap.size) (wLs g d (seaN e1 0) t10 t11 ++ (wLs g b e1 e10 e11 ++ (wF g a b d f1 ++ (wSs g sh m10 m11 z9))))) hq11) hD
  obtain ⟨hP2, hPr0⟩ := va_P_app.mp hP
  obtain ⟨hP1, hPr1⟩ := va_P_app.mp hPr0
  obtain ⟨hP0, hP3⟩ := va_P_app.mp hPr1
  exact lp13 (40 + 1) 0 t10 t11 (by omega) (by omega) ls hl H locs hP hD hS
set_option maxRecDepth 100000 in
set_option maxHeartbeats 4000000 in
theorem c_X0_trialGoesAs2 (l : Launch) (g : Gd) (a : Nat → Nat) (f1 : Int → Int) (b : Nat → Nat) (e1 : Int → Int) (e10 : Int → Int) (e11 : Int → Int) (d : Nat → Nat) (t1 : Int → Int) (t10 : Int → Int) (t11 : Int → Int) (sh : Nat → Nat) (m10 : Int → Int) (m11 : Int → Int) (m12 : Int → Int) (r : Int) (sz : Nat) (h1 : InvK 0 t1) (h2 : t1 0 ≤ 9999) (h3 : 0 ≤ r ∧ r < t1 1) (h4 : 0 ≤ m11 2 ∧ m11 2 ≤ 40) (h5 : ∀ j, LR (m12 j)) : Met l yX0_trialGoesAs (wsOf yX0_trialGoesAs cX0_trialGoesAs 4 (some .boolean)) rm_X0_trialGoesAs (PX g (wP g (wF g a b d f1 ++ (wLs g b e1 e10 e11 ++ (wLs g d t1 t10 t11 ++ (wSs g sh m10 m11 m12)))) sz) [.ref (a 0), .ref (sh 4), .int (iI r)]) (QMi g (fun u9 : Nat → Int → Int => wF g a b d f1 ++ (wLs g b e1 e10 e11 ++ (wLs g d (u9 201) (u9 210) (u9 211) ++ (wSs g sh m10 m11 m12)))) (fun r9 _ => r9 = iI (bI (soT t1 m12 80 r (Int.toNat (m11 2)) = true))) (va_A (wF g a b d f1 ++ (wLs g b e1 e10 e11 ++ (wLs g d t1 t10 t11 ++ (wSs g sh m10 m11 m12)))) sz)) 0 0 (va_A (wF g a b d f1 ++ (wLs g b e1 e10 e11 ++ (wLs g d t1 t10 t11 ++ (wSs g sh m10 m11 m12)))) sz) := by
  refine me (g := g) (by decide) rfl ?_
  intro pq eq s mq below meth cq C hnm hB ls hl
  obtain ⟨hx, hb, hr, hml, hown, hts, hlocks, hK⟩ := C
  have hown : s.vm.findClass RX0 = some mq.cls := hown
  have hl : lv_has ls 4 [(0, .ref (a 0)), (1, .ref (sh 4)), (2, .int (iI r))] := hl
  obtain ⟨hsz, hP, hD0⟩ := hB
  subst hsz
  have hD := hD0.self (sz := s.heap.size)
  have hA : ∀ q : Nat, s.heap.size ≤ q → va_A (wF g a b d f1 ++ (wLs g b e1 e10 e11 ++ (wLs g d t1 t10 t11 ++ (wSs g sh m10 m11 m12)))) s.heap.size q := fun q h => Or.inr h
  have hS : va_S (va_A (wF g a b d f1 ++ (wLs g b e1 e10 e11 ++ (wLs g d t1 t10 t11 ++ (wSs g sh m10 m11 m12)))) s.heap.size) s.heap s.heap [] := va_S.rf
  obtain ⟨hP0, hPr0⟩ := va_P_app.mp hP
  obtain ⟨hP1, hPr1⟩ := va_P_app.mp hPr0
  obtain ⟨hP2, hP3⟩ := va_P_app.mp hPr1
  have hI := h1
  have hn := hI.num
  refine lv_iconst (v := iI (0)) hx hb dX0_trialGoesAs_0 (by decide) ?_
  refine lv_istore_n (lv' := [(3, .int (iI 0)), (0, .ref (a 0)), (1, .ref (sh 4)), (2, .int (iI r))]) hx hb dX0_trialGoesAs_1 rfl hl (by decide) rfl (fun ls hl => ?_)
  have lp2 : ∀ (n2 : Nat) (j : Nat) (x9 : Int → Int) (y9 : Int → Int), ((j : Int) ≤ m11 2) → (soT t1 m12 80 r j = true) → 40 - j < n2 → ∀ ls : Array Slot, lv_has ls 4 [(3, .int (iI (j : Int))), (0, .ref (a 0)), (1, .ref (sh 4)), (2, .int (iI r))] → ∀ (H : Heap) (locs : List Loc), va_P g.1 vwCl (wF g a b d f1 ++ (wLs g b e1 e10 e11 ++ (wLs g d (seaN t1 j) x9 y9 ++ (wSs g sh m10 m11 m12)))) H → va_D (va_A (wF g a b d f1 ++ (wLs g b e1 e10 e11 ++ (wLs g d t1 t10 t11 ++ (wSs g sh m10 m11 m12)))) s.heap.size) (wF g a b d f1 ++ (wLs g b e1 e10 e11 ++ (wLs g d (seaN t1 j) x9 y9 ++ (wSs g sh m10 m11 m12)))) → va_S (va_A (wF g a b d f1 ++ (wLs g b e1 e10 e11 ++ (wLs g d t1 t10 t11 ++ (wSs g sh m10 m11 m12)))) s.heap.size) s.heap H locs → W pq l eq rm_X0_trialGoesAs s mq [.ref (a 0), .ref (sh 4), .int (iI r)].toArray below meth cq H locs 0 0 (MQ below (QMi g (fun u9 : Nat → Int → Int => wF g a b d f1 ++ (wLs g b e1 e10 e11 ++ (wLs g d (u9 201) (u9 210) (u9 211) ++ (wSs g sh m10 m11 m12)))) (fun r9 _ => r9 = iI (bI (soT t1 m12 80 r (Int.toNat (m11 2)) = true))) (va_A (wF g a b d f1 ++ (wLs g b e1 e10 e11 ++ (wLs g d t1 t10 t11 ++ (wSs g sh m10 m11 m12)))) s.heap.size)) [.ref (a 0), .ref (sh 4), .int (iI r)].toArray s 0 0 (va_A (wF g a b d f1 ++ (wLs g b e1 e10 e11 ++ (wLs g d t1 t10 t11 ++ (wSs g sh m10 m11 m12)))) s.heap.size)) (F0 mq 2 ls []) := by
    intro n2
    induction n2 with
    | zero => intro j x9 y9 i2_1 i2_2 hm; exact absurd hm (Nat.not_lt_zero _)
    | succ n2 ih2 =>
      intro j x9 y9 i2_1 i2_2 hm2 ls hl H locs hP hD hS
      have hsn := seaN_inv hI j (by omega)
      have hs0 := hsn.2.1
      have hs1 := hsn.2.2 1 (by omega) (by omega)
      have hcr := hsn.1.ran r (by omega) (by omega)
      obtain ⟨hP0, hPr0⟩ := va_P_app.mp hP
      obtain ⟨hP1, hPr1⟩ := va_P_app.mp hPr0
      obtain ⟨hP2, hP3⟩ := va_P_app.mp hPr1
      refine lv_iload_n hx hb dX0_trialGoesAs_2 rfl (lv_at hl 0 rfl) ?_
      refine lv_aload_n hx hb dX0_trialGoesAs_3 rfl (lv_at hl 2 rfl) ?_
      refine xgN_X2 hx hb hts hown hK hP3 4 rfl 2 (by decide) fk_X0_113 (v := .int (iI (m11 2))) rfl dX0_trialGoesAs_4 ?_
      refine xi_c_ge (tgt := 45) hx hb ⟨by omega, by omega⟩ ⟨by omega, by omega⟩ dX0_trialGoesAs_7 (by decide) (fun z1 => ?_) (fun z1 => ?_)
      · refine lv_iconst (v := iI (1)) hx hb dX0_trialGoesAs_45 (by decide) ?_
        have hP : va_P g.1 vwCl (wF g a b d f1 ++ (wLs g b e1 e10 e11 ++ (wLs g d ((su (su (su (fun _ _ => 0) 201 (seaN t1 j)) 210 x9) 211 y9) 201) ((su (su (su (fun _ _ => 0) 201 (seaN t1 j)) 210 x9) 211 y9) 210) ((su (su (su (fun _ _ => 0) 201 (seaN t1 j)) 210 x9) 211 y9) 211) ++ (wSs g sh m10 m11 m12)))) H := hP
        have hD : va_D (va_A (wF g a b d f1 ++ (wLs g b e1 e10 e11 ++ (wLs g d t1 t10 t11 ++ (wSs g sh m10 m11 m12)))) s.heap.size) (wF g a b d f1 ++ (wLs g b e1 e10 e11 ++ (wLs g d ((su (su (su (fun _ _ => 0) 201 (seaN t1 j)) 210 x9) 211 y9) 201) ((su (su (su (fun _ _ => 0) 201 (seaN t1 j)) 210 x9) 211 y9) 210) ((su (su (su (fun _ _ => 0) 201 (seaN t1 j)) 210 x9) 211 y9) 211) ++ (wSs g sh m10 m11 m12)))) := hD
        exact W.zret hx hb hr (by decide) (fun t ht hW => ⟨⟨_, (su (su (su (fun _ _ => 0) 201 (seaN t1 j)) 210 x9) 211 y9), rfl, by rw [bI_t (by rw [show (m11 2).toNat = j by omega]; exact i2_2)], by rw [ht]; exact hP, hD⟩, hS.F ht⟩) hS.2.2 dX0_trialGoesAs_46
      · refine lv_aload_n hx hb dX0_trialGoesAs_10 rfl (lv_at hl 2 rfl) ?_
        refine xgN_X2 hx hb hts hown hK hP3 4 rfl 0 (by decide) fk_X0_126 (v := .ref (sh 5)) rfl dX0_trialGoesAs_11 ?_
        refine lv_iload_n hx hb dX0_trialGoesAs_14 rfl (lv_at hl 0 rfl) ?_
        refine xl_alq hx hb hK hP3 5 (s0 := m12) rfl (i := (j : Int)) ⟨by omega, by omega⟩ rfl dX0_trialGoesAs_15 ?_
        refine lv_aload_n hx hb dX0_trialGoesAs_16 rfl (lv_at hl 1 rfl) ?_
        refine xg_X0 hx hb hts hown hK hP0 0 rfl 1 (by decide) fk_X0_12 (v := .ref (d 0)) rfl dX0_trialGoesAs_17 ?_
        refine xgN_X1 hx hb hts hown hK hP2 0 rfl 8 (by decide) fk_X0_33 (v := .ref (d 6)) rfl dX0_trialGoesAs_20 ?_
        refine lv_iload_n hx hb dX0_trialGoesAs_23 rfl (lv_at hl 3 rfl) ?_
        refine xi_alz hx hb hK hP2 6 (s0 := seaN t1 j) rfl (i := r) ⟨by omega, by omega⟩ rfl dX0_trialGoesAs_24 ?_
        refine xi_i2l hx hb ⟨by omega, by omega⟩ dX0_trialGoesAs_25 ?_
        refine xl_c_eq (tgt := 32) hx hb (h5 _) ⟨by omega, by omega⟩ dX0_trialGoesAs_26 dX0_trialGoesAs_27 (by decide) (fun z2 => ?_) (fun z2 => ?_)
        · refine lv_aload_n hx hb dX0_trialGoesAs_32 rfl (lv_at hl 1 rfl) ?_
          refine xg_X0 hx hb hts hown hK hP0 0 rfl 1 (by decide) fk_X0_12 (v := .ref (d 0)) rfl dX0_trialGoesAs_33 ?_
          have hD : va_D (va_A (wF g a b d f1 ++ (wLs g b e1 e10 e11 ++ (wLs g d t1 t10 t11 ++ (wSs g sh m10 m11 m12)))) s.heap.size) (wF g a b d f1 ++ (wLs g d (seaN t1 j) x9 y9 ++ (wLs g b e1 e10 e11 ++ (wSs g sh m10 m11 m12)))) := D_perm (List.Perm.append_left _ (List.perm_append_comm_assoc _ _ _)) hD
          have hD : va_D (va_A (wF g a b d f1 ++ (wLs g b e1 e10 e11 ++ (wLs g d t1 t10 t11 ++ (wSs g sh m10 m11 m12)))) s.heap.size) (wLs g d (seaN t1 j) x9 y9 ++ (wF g a b d f1 ++ (wLs g b e1 e10 e11 ++ (wSs g sh m10 m11 m12)))) := D_perm (List.perm_append_comm_assoc _ _ _) hD
          have hP : va_P g.1 vwCl (wLs g d (seaN t1 j) x9 y9 ++ (wF g a b d f1 ++ (wLs g b e1 e10 e11 ++ (wSs g sh m10 m11 m12)))) H := va_P_app.mpr ⟨hP2, va_P_app.mpr ⟨hP0, va_P_app.mpr ⟨hP1, hP3⟩⟩⟩
          refine xmF_v (rVN (rest := []) hx hb hml hown hts hK hl (c_X1_goSeason l g d (seaN t1 j) x9 y9 H.size (show InvK 0 (seaN t1 j) from hsn.1) (show (seaN t1 j) 0 < 20000 from by omega)) lk_X0_36 ⟨rfl, hP2, (va_D_app hD).1.weaken (fun _ _ _ _ => trivial)⟩ (va_recv hK.1 hP2 (ci := 1) (q0 := 0) rfl rfl) rfl rfl rfl (Rm.of rfl) rfl rfl dX0_trialGoesAs_36) hP hD hS hA (fun u3 H locs hw hP hD hS => ?_)
          have hP : va_P g.1 vwCl (wLs g d (sea (seaN t1 j)) (u3 10) (u3 11) ++ (wF g a b d f1 ++ (wLs g b e1 e10 e11 ++ (wSs g sh m10 m11 m12)))) H := hP
          have hD : va_D (va_A (wF g a b d f1 ++ (wLs g b e1 e10 e11 ++ (wLs g d t1 t10 t11 ++ (wSs g sh m10 m11 m12)))) s.heap.size) (wLs g d (sea (seaN t1 j)) (u3 10) (u3 11) ++ (wF g a b d f1 ++ (wLs g b e1 e10 e11 ++ (wSs g sh m10 m11 m12)))) := hD
          obtain ⟨hP2, hPr0⟩ := va_P_app.mp hP
          obtain ⟨hP0, hPr1⟩ := va_P_app.mp hPr0
          obtain ⟨hP1, hP3⟩ := va_P_app.mp hPr1
          refine xi_inc (lv' := [(3, .int (iI ((j : Int) + 1))), (0, .ref (a 0)), (1, .ref (sh 4)), (2, .int (iI r))]) hx hb dX0_trialGoesAs_39 hl (k := 0) rfl (by decide) rfl (fun ls hl => ?_)
          refine lv_goto (tgt := 2) hx hb dX0_trialGoesAs_42 (by decide) ?_
          have hq4 : ((j : Int) + 1) = ((j + 1) : Int) := by omega
          have hl : lv_has ls 4 [(3, .int (iI ((j : Int) + 1))), (0, .ref (a 0)), (1, .ref (sh 4)), (2, .int (iI r))] := lv_sub hl [0, 1, 2, 3] rfl
          have hl := Eq.mp (congrArg (fun z9 => lv_has ls 4 [(3, .int (iI z9)), (0, .ref (a 0)), (1, .ref (sh 4)), (2, .int (iI r))]) hq4) hl
          have hq5 : (sea (seaN t1 j)) = (seaN t1 (j + 1)) := rfl
          have hP := Eq.mp (congrArg (fun z9 => va_P g.1 vwCl (wLs g d z9 (u3 10) (u3 11) ++ (wF g a b d f1 ++ (wLs g b e1 e10 e11 ++ (wSs g sh m10 m11 m12)))) H) hq5) hP
          have hD := Eq.mp (congrArg (fun z9 => va_D (va_A (wF g a b d f1 ++ (wLs g b e1 e10 e11 ++ (wLs g d t1 t10 t11 ++ (wSs g sh m10 m11 m12)))) s.heap.size) (wLs g d z9 (u3 10) (u3 11) ++ (wF g a b d f1 ++ (wLs g b e1 e10 e11 ++ (wSs g sh m10 m11 m12))))) hq5) hD
          obtain ⟨hP2, hPr0⟩ := va_P_app.mp hP
          obtain ⟨hP0, hPr1⟩ := va_P_app.mp hPr0
          obtain ⟨hP1, hP3⟩ := va_P_app.mp hPr1
          have hD : va_D (va_A (wF g a b d f1 ++ (wLs g b e1 e10 e11 ++ (wLs g d t1 t10 t11 ++ (wSs g sh m10 m11 m12)))) s.heap.size) (wF g a b d f1 ++ (wLs g d (seaN t1 (j + 1)) (u3 10) (u3 11) ++ (wLs g b e1 e10 e11 ++ (wSs g sh m10 m11 m12)))) := D_perm (List.perm_append_comm_assoc _ _ _) hD
          have hD : va_D (va_A (wF g a b d f1 ++ (wLs g b e1 e10 e11 ++ (wLs g d t1 t10 t11 ++ (wSs g sh m10 m11 m12)))) s.heap.size) (wF g a b d f1 ++ (wLs g b e1 e10 e11 ++ (wLs g d (seaN t1 (j + 1)) (u3 10) (u3 11) ++ (wSs g sh m10 m11 m12)))) := D_perm (List.Perm.append_left _ (List.perm_append_comm_assoc _ _ _)) hD
          have hP : va_P g.1 vwCl (wF g a b d f1 ++ (wLs g b e1 e10 e11 ++ (wLs g d (seaN t1 (j + 1)) (u3 10) (u3 11) ++ (wSs g sh m10 m11 m12)))) H := va_P_app.mpr ⟨hP0, va_P_app.mpr ⟨hP1, va_P_app.mpr ⟨hP2, hP3⟩⟩⟩
          exact ih2 (j + 1) (u3 10) (u3 11) (by omega) (by simp only [soT, Bool.and_eq_true, decide_eq_true_eq]; exact ⟨i2_2, by omega⟩) (by omega) ls hl H locs hP hD hS
        · refine lv_iconst (v := iI (0)) hx hb dX0_trialGoesAs_30 (by decide) ?_
          have hP : va_P g.1 vwCl (wF g a b d f1 ++ (wLs g b e1 e10 e11 ++ (wLs g d ((su (su (su (fun _ _ => 0) 201 (seaN t1 j)) 210 x9) 211 y9) 201) ((su (su (su (fun _ _ => 0) 201 (seaN t1 j)) 210 x9) 211 y9) 210) ((su (su (su (fun _ _ => 0) 201 (seaN t1 j)) 210 x9) 211 y9) 211) ++ (wSs g sh m10 m11 m12)))) H := hP
          have hD : va_D (va_A (wF g a b d f1 ++ (wLs g b e1 e10 e11 ++ (wLs g d t1 t10 t11 ++ (wSs g sh m10 m11 m12)))) s.heap.size) (wF g a b d f1 ++ (wLs g b e1 e10 e11 ++ (wLs g d ((su (su (su (fun _ _ => 0) 201 (seaN t1 j)) 210 x9) 211 y9) 201) ((su (su (su (fun _ _ => 0) 201 (seaN t1 j)) 210 x9) 211 y9) 210) ((su (su (su (fun _ _ => 0) 201 (seaN t1 j)) 210 x9) 211 y9) 211) ++ (wSs g sh m10 m11 m12)))) := hD
          exact W.zret hx hb hr (by decide) (fun t ht hW => ⟨⟨_, (su (su (su (fun _ _ => 0) 201 (seaN t1 j)) 210 x9) 211 y9), rfl, by rw [bI_f (fun z => by have := soT_le z (show j + 1 ≤ _ by omega); simp only [soT, Bool.and_eq_true, decide_eq_true_eq] at this; omega)], by rw [ht]; exact hP, hD⟩, hS.F ht⟩) hS.2.2 dX0_trialGoesAs_31
  have hq6 : 0 = (0 : Int) := rfl
  have hl : lv_has ls 4 [(3, .int (iI 0)), (0, .ref (a 0)), (1, .ref (sh 4)), (2, .int (iI r))] := lv_sub hl [0, 1, 2, 3] rfl
  have hl := Eq.mp (congrArg (fun z9 => lv_has ls 4 [(3, .int (iI z9)), (0, .ref (a 0)), (1, .ref (sh 4)), (2, .int (iI r))]) hq6) hl
  have hq7 : t1 = (seaN t1 0) := rfl
  have hP := Eq.mp (congrArg (fun z9 => va_P g.1 vwCl (wF g a b d f1 ++ (wLs g b e1 e10 e11 ++ (wLs g d z9 t10 t11 ++ (wSs g sh m10 m11 m12)))) s.heap) hq7) hP
  have hD := Eq.mp (congrArg (fun z9 => va_D (va_A (wF g a b d f1 ++ (wLs g b e1 e10 e11 ++ (wLs g d t1 t10 t11 ++ (wSs g sh m10 m11 m12)))) s.heap.size) (wF g a b d f1 ++ (wLs g b e1 e10 e11 ++ (wLs g d z9 t10 t11 ++ (wSs g sh m10 m11 m12))))) hq7) hD
  obtain ⟨hP0, hPr0⟩ := va_P_app.mp hP
  obtain ⟨hP1, hPr1⟩ := va_P_app.mp hPr0
  obtain ⟨hP2, hP3⟩ := va_P_app.mp hPr1
  exact lp2 (40 + 1) 0 t10 t11 (by omega) rfl (by omega) ls hl s.heap [] hP hD hS
set_option maxRecDepth 100000 in
set_option maxHeartbeats 4000000 in
theorem c_X0_matchingPairs2 (l : Launch) (g : Gd) (a : Nat → Nat) (f1 : Int → Int) (b : Nat → Nat) (e1 : Int → Int) (e10 : Int → Int) (e11 : Int → Int) (d : Nat → Nat) (t1 : Int → Int) (t10 : Int → Int) (t11 : Int → Int) (sh : Nat → Nat) (m10 : Int → Int) (m11 : Int → Int) (m12 : Int → Int) (r : Int) (sz : Nat) (h1 : InvK 0 e1) (h2 : e1 0 ≤ 9999) (h3 : 0 ≤ r ∧ r < e1 1) (h4 : 0 ≤ m11 2 ∧ m11 2 ≤ 40) (h5 : ∀ j, LR (m12 j)) : Met l yX0_matchingPairs (wsOf yX0_matchingPairs cX0_matchingPairs 6 (some .int)) rm_X0_matchingPairs (PX g (wP g (wF g a b d f1 ++ (wLs g b e1 e10 e11 ++ (wLs g d t1 t10 t11 ++ (wSs g sh m10 m11 m12)))) sz) [.ref (a 0), .ref (sh 4), .int (iI r)]) (QMi g (fun u9 : Nat → Int → Int => wF g a b d f1 ++ (wLs g b e1 e10 e11 ++ (wLs g d (u9 201) (u9 210) (u9 211) ++ (wSs g sh m10 m11 m12)))) (fun r9 _ => r9 = iI (rdO (rdV e1 m12 80 r (m11 2)) 10)) (va_A (wF g a b d f1 ++ (wLs g b e1 e10 e11 ++ (wLs g d t1 t10 t11 ++ (wSs g sh m10 m11 m12)))) sz)) 0 0 (va_A (wF g a b d f1 ++ (wLs g b e1 e10 e11 ++ (wLs g d t1 t10 t11 ++ (wSs g sh m10 m11 m12)))) sz) := by
  refine me (g := g) (by decide) rfl ?_
  intro pq eq s mq below meth cq C hnm hB ls hl
  obtain ⟨hx, hb, hr, hml, hown, hts, hlocks, hK⟩ := C
  have hown : s.vm.findClass RX0 = some mq.cls := hown
  have hl : lv_has ls 6 [(0, .ref (a 0)), (1, .ref (sh 4)), (2, .int (iI r))] := hl
  obtain ⟨hsz, hP, hD0⟩ := hB
  subst hsz
  have hD := hD0.self (sz := s.heap.size)
  have hA : ∀ q : Nat, s.heap.size ≤ q → va_A (wF g a b d f1 ++ (wLs g b e1 e10 e11 ++ (wLs g d t1 t10 t11 ++ (wSs g sh m10 m11 m12)))) s.heap.size q := fun q h => Or.inr h
  have hS : va_S (va_A (wF g a b d f1 ++ (wLs g b e1 e10 e11 ++ (wLs g d t1 t10 t11 ++ (wSs g sh m10 m11 m12)))) s.heap.size) s.heap s.heap [] := va_S.rf
  obtain ⟨hP0, hPr0⟩ := va_P_app.mp hP
  obtain ⟨hP1, hPr1⟩ := va_P_app.mp hPr0
  obtain ⟨hP2, hP3⟩ := va_P_app.mp hPr1
  have hI := h1
  have hI8 : Inv e1 := h1.mono (by omega)
  have hn := hI.num
  have hs := hI.sea
  have hv := hI.vil
  refine lv_iconst (v := iI (0)) hx hb dX0_matchingPairs_0 (by decide) ?_
  refine lv_istore_n (lv' := [(3, .int (iI 0)), (0, .ref (a 0)), (1, .ref (sh 4)), (2, .int (iI r))]) hx hb dX0_matchingPairs_1 rfl hl (by decide) rfl (fun ls hl => ?_)
  refine lv_iconst (v := iI (0)) hx hb dX0_matchingPairs_2 (by decide) ?_
  refine lv_istore (lv' := [(4, .int (iI 0)), (3, .int (iI 0)), (0, .ref (a 0)), (1, .ref (sh 4)), (2, .int (iI r))]) hx hb dX0_matchingPairs_3 hl (by decide) rfl (fun ls hl => ?_)
  have lp5 : ∀ (n5 : Nat) (h : Nat) (v9 : Int → Int) (x9 : Int → Int) (y9 : Int → Int), (h ≤ 10) → 10 - h < n5 → ∀ ls : Array Slot, lv_has ls 6 [(4, .int (iI (h : Int))), (3, .int (iI (rdO (rdV e1 m12 80 r (m11 2)) h))), (0, .ref (a 0)), (1, .ref (sh 4)), (2, .int (iI r))] → ∀ (H : Heap) (locs : List Loc), va_P g.1 vwCl (wF g a b d f1 ++ (wLs g b e1 e10 e11 ++ (wLs g d v9 x9 y9 ++ (wSs g sh m10 m11 m12)))) H → va_D (va_A (wF g a b d f1 ++ (wLs g b e1 e10 e11 ++ (wLs g d t1 t10 t11 ++ (wSs g sh m10 m11 m12)))) s.heap.size) (wF g a b d f1 ++ (wLs g b e1 e10 e11 ++ (wLs g d v9 x9 y9 ++ (wSs g sh m10 m11 m12)))) → va_S (va_A (wF g a b d f1 ++ (wLs g b e1 e10 e11 ++ (wLs g d t1 t10 t11 ++ (wSs g sh m10 m11 m12)))) s.heap.size) s.heap H locs → W pq l eq rm_X0_matchingPairs s mq [.ref (a 0), .ref (sh 4), .int (iI r)].toArray below meth cq H locs 0 0 (MQ below (QMi g (fun u9 : Nat → Int → Int => wF g a b d f1 ++ (wLs g b e1 e10 e11 ++ (wLs g d (u9 201) (u9 210) (u9 211) ++ (wSs g sh m10 m11 m12)))) (fun r9 _ => r9 = iI (rdO (rdV e1 m12 80 r (m11 2)) 10)) (va_A (wF g a b d f1 ++ (wLs g b e1 e10 e11 ++ (wLs g d t1 t10 t11 ++ (wSs g sh m10 m11 m12)))) s.heap.size)) [.ref (a 0), .ref (sh 4), .int (iI r)].toArray s 0 0 (va_A (wF g a b d f1 ++ (wLs g b e1 e10 e11 ++ (wLs g d t1 t10 t11 ++ (wSs g sh m10 m11 m12)))) s.heap.size)) (F0 mq 5 ls []) := by
    intro n5
    induction n5 with
    | zero => intro h v9 x9 y9 i5_1 hm; exact absurd hm (Nat.not_lt_zero _)
    | succ n5 ih5 =>
      intro h v9 x9 y9 i5_1 hm5 ls hl H locs hP hD hS
      obtain ⟨hP0, hPr0⟩ := va_P_app.mp hP
      obtain ⟨hP1, hPr1⟩ := va_P_app.mp hPr0
      obtain ⟨hP2, hP3⟩ := va_P_app.mp hPr1
      refine lv_iload hx hb dX0_matchingPairs_5 (lv_at hl 0 rfl) ?_
      refine lv_bipush (v := iI (9)) hx hb dX0_matchingPairs_7 (by decide) ?_
      refine xi_c_gt (tgt := 80) hx hb ⟨by omega, by omega⟩ ⟨by decide, by decide⟩ dX0_matchingPairs_9 (by decide) (fun z1 => ?_) (fun z1 => ?_)
      · refine lv_iload_n hx hb dX0_matchingPairs_80 rfl (lv_at hl 1 rfl) ?_
        have hP : va_P g.1 vwCl (wF g a b d f1 ++ (wLs g b e1 e10 e11 ++ (wLs g d ((su (su (su (fun _ _ => 0) 201 v9) 210 x9) 211 y9) 201) ((su (su (su (fun _ _ => 0) 201 v9) 210 x9) 211 y9) 210) ((su (su (su (fun _ _ => 0) 201 v9) 210 x9) 211 y9) 211) ++ (wSs g sh m10 m11 m12)))) H := hP
        have hD : va_D (va_A (wF g a b d f1 ++ (wLs g b e1 e10 e11 ++ (wLs g d t1 t10 t11 ++ (wSs g sh m10 m11 m12)))) s.heap.size) (wF g a b d f1 ++ (wLs g b e1 e10 e11 ++ (wLs g d ((su (su (su (fun _ _ => 0) 201 v9) 210 x9) 211 y9) 201) ((su (su (su (fun _ _ => 0) 201 v9) 210 x9) 211 y9) 210) ((su (su (su (fun _ _ => 0) 201 v9) 210 x9) 211 y9) 211) ++ (wSs g sh m10 m11 m12)))) := hD
        exact W.iret hx hb hr (fun t ht hW => ⟨⟨_, (su (su (su (fun _ _ => 0) 201 v9) 210 x9) 211 y9), rfl, congrArg iI (by rw [show h = 10 by omega]), by rw [ht]; exact hP, hD⟩, hS.F ht⟩) hS.2.2 dX0_matchingPairs_81
      · refine lv_bipush (v := iI (-9)) hx hb dX0_matchingPairs_12 (by decide) ?_
        refine lv_istore (lv' := [(5, .int (iI (-9))), (4, .int (iI (h : Int))), (3, .int (iI (rdO (rdV e1 m12 80 r (m11 2)) h))), (0, .ref (a 0)), (1, .ref (sh 4)), (2, .int (iI r))]) hx hb dX0_matchingPairs_14 hl (by decide) rfl (fun ls hl => ?_)
        have lp16 : ∀ (n16 : Nat) (w : Nat) (v8 : Int → Int) (x8 : Int → Int) (y8 : Int → Int), (w ≤ 19) → 19 - w < n16 → ∀ ls : Array Slot, lv_has ls 6 [(5, .int (iI ((w : Int) - 9))), (4, .int (iI (h : Int))), (3, .int (iI (rdI (rdV e1 m12 80 r (m11 2)) h (rdO (rdV e1 m12 80 r (m11 2)) h) w))), (0, .ref (a 0)), (1, .ref (sh 4)), (2, .int (iI r))] → ∀ (H : Heap) (locs : List Loc), va_P g.1 vwCl (wF g a b d f1 ++ (wLs g b e1 e10 e11 ++ (wLs g d v8 x8 y8 ++ (wSs g sh m10 m11 m12)))) H → va_D (va_A (wF g a b d f1 ++ (wLs g b e1 e10 e11 ++ (wLs g d t1 t10 t11 ++ (wSs g sh m10 m11 m12)))) s.heap.size) (wF g a b d f1 ++ (wLs g b e1 e10 e11 ++ (wLs g d v8 x8 y8 ++ (wSs g sh m10 m11 m12)))) → va_S (va_A (wF g a b d f1 ++ (wLs g b e1 e10 e11 ++ (wLs g d t1 t10 t11 ++ (wSs g sh m10 m11 m12)))) s.heap.size) s.heap H locs → W pq l eq rm_X0_matchingPairs s mq [.ref (a 0), .ref (sh 4), .int (iI r)].toArray below meth cq H locs 0 0 (MQ below (QMi g (fun u9 : Nat → Int → Int => wF g a b d f1 ++ (wLs g b e1 e10 e11 ++ (wLs g d (u9 201) (u9 210) (u9 211) ++ (wSs g sh m10 m11 m12)))) (fun r9 _ => r9 = iI (rdO (rdV e1 m12 80 r (m11 2)) 10)) (va_A (wF g a b d f1 ++ (wLs g b e1 e10 e11 ++ (wLs g d t1 t10 t11 ++ (wSs g sh m10 m11 m12)))) s.heap.size)) [.ref (a 0), .ref (sh 4), .int (iI r)].toArray s 0 0 (va_A (wF g a b d f1 ++ (wLs g b e1 e10 e11 ++ (wLs g d t1 t10 t11 ++ (wSs g sh m10 m11 m12)))) s.heap.size)) (F0 mq 16 ls []) := by
          intro n16
          induction n16 with
          | zero => intro w v8 x8 y8 i16_1 hm; exact absurd hm (Nat.not_lt_zero _)
          | succ n16 ih16 =>
            intro w v8 x8 y8 i16_1 hm16 ls hl H locs hP hD hS
            obtain ⟨hP0, hPr0⟩ := va_P_app.mp hP
            obtain ⟨hP1, hPr1⟩ := va_P_app.mp hPr0
            obtain ⟨hP2, hP3⟩ := va_P_app.mp hPr1
            refine lv_iload hx hb dX0_matchingPairs_16 (lv_at hl 0 rfl) ?_
            refine lv_bipush (v := iI (9)) hx hb dX0_matchingPairs_18 (by decide) ?_
            refine xi_c_gt (tgt := 74) hx hb ⟨by omega, by omega⟩ ⟨by decide, by decide⟩ dX0_matchingPairs_20 (by decide) (fun z2 => ?_) (fun z2 => ?_)
            · refine xi_inc (lv' := [(4, .int (iI ((h : Int) + 1))), (5, .int (iI ((w : Int) - 9))), (3, .int (iI (rdI (rdV e1 m12 80 r (m11 2)) h (rdO (rdV e1 m12 80 r (m11 2)) h) w))), (0, .ref (a 0)), (1, .ref (sh 4)), (2, .int (iI r))]) hx hb dX0_matchingPairs_74 hl (k := 1) rfl (by decide) rfl (fun ls hl => ?_)
              refine lv_goto (tgt := 5) hx hb dX0_matchingPairs_77 (by decide) ?_
              have hq3 : ((h : Int) + 1) = ((h + 1) : Int) := by omega
              have hq4 : (rdI (rdV e1 m12 80 r (m11 2)) h (rdO (rdV e1 m12 80 r (m11 2)) h) w) = (rdO (rdV e1 m12 80 r (m11 2)) (h + 1)) := by show _ = rdI (rdV e1 m12 80 r (m11 2)) h (rdO (rdV e1 m12 80 r (m11 2)) h) 19; rw [show w = 19 by omega]
              have hl : lv_has ls 6 [(4, .int (iI ((h : Int) + 1))), (3, .int (iI (rdI (rdV e1 m12 80 r (m11 2)) h (rdO (rdV e1 m12 80 r (m11 2)) h) w))), (0, .ref (a 0)), (1, .ref (sh 4)), (2, .int (iI r))] := lv_sub hl [0, 2, 3, 4, 5] rfl
              have hl := Eq.mp (congrArg (fun z9 => lv_has ls 6 [(4, .int (iI z9)), (3, .int (iI (rdI (rdV e1 m12 80 r (m11 2)) h (rdO (rdV e1 m12 80 r (m11 2)) h) w))), (0, .ref (a 0)), (1, .ref (sh 4)), (2, .int (iI r))]) hq3) hl
              have hl := Eq.mp (congrArg (fun z9 => lv_has ls 6 [(4, .int (iI ((h + 1) : Int))), (3, .int (iI z9)), (0, .ref (a 0)), (1, .ref (sh 4)), (2, .int (iI r))]) hq4) hl
              exact ih5 (h + 1) v8 x8 y8 (by omega) (by omega) ls hl H locs hP hD hS
            · have hIu : InvK 0 (up (up e1 (61 + 5 * r + 2) (h : Int)) (3 + 0) ((w : Int) - 9)) := (hI.oth (k2 := 0) (r := r) (w := 2) (v := (h : Int)) (by omega) (by omega) (by omega) (by omega) (by omega) ⟨by omega, by omega, by omega, by omega⟩).wgt (w := 0) (v := (w : Int) - 9) (by omega) (by omega) (by omega)
              refine lv_aload_n hx hb dX0_matchingPairs_23 rfl (lv_at hl 3 rfl) ?_
              refine xg_X0 hx hb hts hown hK hP0 0 rfl 1 (by decide) fk_X0_12 (v := .ref (d 0)) rfl dX0_matchingPairs_24 ?_
              refine lv_aload_n hx hb dX0_matchingPairs_27 rfl (lv_at hl 3 rfl) ?_
              refine xg_X0 hx hb hts hown hK hP0 0 rfl 0 (by decide) fk_X0_22 (v := .ref (b 0)) rfl dX0_matchingPairs_28 ?_
              have hD : va_D (va_A (wF g a b d f1 ++ (wLs g b e1 e10 e11 ++ (wLs g d t1 t10 t11 ++ (wSs g sh m10 m11 m12)))) s.heap.size) (wF g a b d f1 ++ (wLs g d v8 x8 y8 ++ (wLs g b e1 e10 e11 ++ (wSs g sh m10 m11 m12)))) := D_perm (List.Perm.append_left _ (List.perm_append_comm_assoc _ _ _)) hD
              have hD : va_D (va_A (wF g a b d f1 ++ (wLs g b e1 e10 e11 ++ (wLs g d t1 t10 t11 ++ (wSs g sh m10 m11 m12)))) s.heap.size) (wLs g d v8 x8 y8 ++ (wF g a b d f1 ++ (wLs g b e1 e10 e11 ++ (wSs g sh m10 m11 m12)))) := D_perm (List.perm_append_comm_assoc _ _ _) hD
              have hD : va_D (va_A (wF g a b d f1 ++ (wLs g b e1 e10 e11 ++ (wLs g d t1 t10 t11 ++ (wSs g sh m10 m11 m12)))) s.heap.size) (wLs g d v8 x8 y8 ++ (wLs g b e1 e10 e11 ++ (wF g a b d f1 ++ (wSs g sh m10 m11 m12)))) := D_perm (List.Perm.append_left _ (List.perm_append_comm_assoc _ _ _)) hD
              have hP : va_P g.1 vwCl (wLs g d v8 x8 y8 ++ (wLs g b e1 e10 e11 ++ (wF g a b d f1 ++ (wSs g sh m10 m11 m12)))) H := va_P_app.mpr ⟨hP2, va_P_app.mpr ⟨hP1, va_P_app.mpr ⟨hP0, hP3⟩⟩⟩
              have hP : va_P g.1 vwCl ((wLs g d v8 x8 y8 ++ (wLs g b e1 e10 e11)) ++ (wF g a b d f1 ++ (wSs g sh m10 m11 m12))) H := by rw [List.append_assoc]; exact hP
              have hD : va_D (va_A (wF g a b d f1 ++ (wLs g b e1 e10 e11 ++ (wLs g d t1 t10 t11 ++ (wSs g sh m10 m11 m12)))) s.heap.size) ((wLs g d v8 x8 y8 ++ (wLs g b e1 e10 e11)) ++ (wF g a b d f1 ++ (wSs g sh m10 m11 m12))) := by rw [List.append_assoc]; exact hD
              refine xmF_v (rVN (rest := []) hx hb hml hown hts hK hl (c_X1_becomes l g d v8 x8 y8 b e1 e10 e11 H.size ) lk_X0_25 ⟨rfl, (va_P_app.mp hP).1, (va_D_app hD).1.weaken (fun _ _ _ _ => trivial)⟩ (va_recv hK.1 hP2 (ci := 1) (q0 := 0) rfl rfl) rfl rfl rfl (Rm.of rfl) rfl rfl dX0_matchingPairs_31) hP hD hS hA (fun _ H locs hw hP hD hS => ?_)
              have hP : va_P g.1 vwCl ((wLs g d e1 x8 y8 ++ (wLs g b e1 e10 e11)) ++ (wF g a b d f1 ++ (wSs g sh m10 m11 m12))) H := hP
              have hD : va_D (va_A (wF g a b d f1 ++ (wLs g b e1 e10 e11 ++ (wLs g d t1 t10 t11 ++ (wSs g sh m10 m11 m12)))) s.heap.size) ((wLs g d e1 x8 y8 ++ (wLs g b e1 e10 e11)) ++ (wF g a b d f1 ++ (wSs g sh m10 m11 m12))) := hD
              rw [List.append_assoc] at hP hD
              have hP : va_P g.1 vwCl (wLs g d e1 x8 y8 ++ (wLs g b e1 e10 e11 ++ (wF g a b d f1 ++ (wSs g sh m10 m11 m12)))) H := hP
              have hD : va_D (va_A (wF g a b d f1 ++ (wLs g b e1 e10 e11 ++ (wLs g d t1 t10 t11 ++ (wSs g sh m10 m11 m12)))) s.heap.size) (wLs g d e1 x8 y8 ++ (wLs g b e1 e10 e11 ++ (wF g a b d f1 ++ (wSs g sh m10 m11 m12)))) := hD
              obtain ⟨hP2, hPr0⟩ := va_P_app.mp hP
              obtain ⟨hP1, hPr1⟩ := va_P_app.mp hPr0
              obtain ⟨hP0, hP3⟩ := va_P_app.mp hPr1
              refine lv_aload_n hx hb dX0_matchingPairs_34 rfl (lv_at hl 3 rfl) ?_
              refine xg_X0 hx hb hts hown hK hP0 0 rfl 1 (by decide) fk_X0_12 (v := .ref (d 0)) rfl dX0_matchingPairs_35 ?_
              refine xgN_X1 hx hb hts hown hK hP2 0 rfl 9 (by decide) fk_X0_66 (v := .ref (d 7)) rfl dX0_matchingPairs_38 ?_
              refine lv_iload_n hx hb dX0_matchingPairs_41 rfl (lv_at hl 5 rfl) ?_
              refine lv_iload hx hb dX0_matchingPairs_42 (lv_at hl 1 rfl) ?_
              refine xi_ast hx hb hK hP hD hS 7 (f := pz 2 e1) rfl (i := r) (v := (h : Int)) ⟨by omega, by omega⟩ rfl dX0_matchingPairs_44 (fun H locs hP hD hS => ?_)
              have hP := Eq.mp (congrArg (fun z9 : va_W => va_P g.1 vwCl (z9 ++ (wLs g b e1 e10 e11 ++ (wF g a b d f1 ++ (wSs g sh m10 m11 m12)))) H) (Ls_hastes (g := g) (a := d) (s := e1) (x10 := x8) (x11 := y8) (i := r) (v := (h : Int)) ⟨by omega, by omega⟩)) hP
              have hD := Eq.mp (congrArg (fun z9 : va_W => va_D (va_A (wF g a b d f1 ++ (wLs g b e1 e10 e11 ++ (wLs g d t1 t10 t11 ++ (wSs g sh m10 m11 m12)))) s.heap.size) (z9 ++ (wLs g b e1 e10 e11 ++ (wF g a b d f1 ++ (wSs g sh m10 m11 m12))))) (Ls_hastes (g := g) (a := d) (s := e1) (x10 := x8) (x11 := y8) (i := r) (v := (h : Int)) ⟨by omega, by omega⟩)) hD
              have hP : va_P g.1 vwCl (wLs g d (up e1 (61 + 5 * r + 2) (h : Int)) x8 y8 ++ (wLs g b e1 e10 e11 ++ (wF g a b d f1 ++ (wSs g sh m10 m11 m12)))) H := hP
              have hD : va_D (va_A (wF g a b d f1 ++ (wLs g b e1 e10 e11 ++ (wLs g d t1 t10 t11 ++ (wSs g sh m10 m11 m12)))) s.heap.size) (wLs g d (up e1 (61 + 5 * r + 2) (h : Int)) x8 y8 ++ (wLs g b e1 e10 e11 ++ (wF g a b d f1 ++ (wSs g sh m10 m11 m12)))) := hD
              obtain ⟨hP2, hPr0⟩ := va_P_app.mp hP
              obtain ⟨hP1, hPr1⟩ := va_P_app.mp hPr0
              obtain ⟨hP0, hP3⟩ := va_P_app.mp hPr1
              refine lv_aload_n hx hb dX0_matchingPairs_45 rfl (lv_at hl 3 rfl) ?_
              refine xg_X0 hx hb hts hown hK hP0 0 rfl 1 (by decide) fk_X0_12 (v := .ref (d 0)) rfl dX0_matchingPairs_46 ?_
              refine xgN_X1 hx hb hts hown hK hP2 0 rfl 6 (by decide) fk_X0_73 (v := .ref (d 4)) rfl dX0_matchingPairs_49 ?_
              refine lv_iconst (v := iI (0)) hx hb dX0_matchingPairs_52 (by decide) ?_
              refine lv_iload hx hb dX0_matchingPairs_53 (lv_at hl 0 rfl) ?_
              refine xi_ast hx hb hK hP hD hS 4 (f := pj 3 4 (up e1 (61 + 5 * r + 2) (h : Int))) rfl (i := 0) (v := (w : Int) - 9) ⟨by omega, by omega⟩ rfl dX0_matchingPairs_55 (fun H locs hP hD hS => ?_)
              have hP := Eq.mp (congrArg (fun z9 : va_W => va_P g.1 vwCl (z9 ++ (wLs g b e1 e10 e11 ++ (wF g a b d f1 ++ (wSs g sh m10 m11 m12)))) H) (Ls_weights (g := g) (a := d) (s := up e1 (61 + 5 * r + 2) (h : Int)) (x10 := x8) (x11 := y8) (i := 0) (v := (w : Int) - 9) ⟨by omega, by omega⟩)) hP
              have hD := Eq.mp (congrArg (fun z9 : va_W => va_D (va_A (wF g a b d f1 ++ (wLs g b e1 e10 e11 ++ (wLs g d t1 t10 t11 ++ (wSs g sh m10 m11 m12)))) s.heap.size) (z9 ++ (wLs g b e1 e10 e11 ++ (wF g a b d f1 ++ (wSs g sh m10 m11 m12))))) (Ls_weights (g := g) (a := d) (s := up e1 (61 + 5 * r + 2) (h : Int)) (x10 := x8) (x11 := y8) (i := 0) (v := (w : Int) - 9) ⟨by omega, by omega⟩)) hD
              have hP : va_P g.1 vwCl (wLs g d (up (up e1 (61 + 5 * r + 2) (h : Int)) (3 + 0) ((w : Int) - 9)) x8 y8 ++ (wLs g b e1 e10 e11 ++ (wF g a b d f1 ++ (wSs g sh m10 m11 m12)))) H := hP
              have hD : va_D (va_A (wF g a b d f1 ++ (wLs g b e1 e10 e11 ++ (wLs g d t1 t10 t11 ++ (wSs g sh m10 m11 m12)))) s.heap.size) (wLs g d (up (up e1 (61 + 5 * r + 2) (h : Int)) (3 + 0) ((w : Int) - 9)) x8 y8 ++ (wLs g b e1 e10 e11 ++ (wF g a b d f1 ++ (wSs g sh m10 m11 m12)))) := hD
              obtain ⟨hP2, hPr0⟩ := va_P_app.mp hP
              obtain ⟨hP1, hPr1⟩ := va_P_app.mp hPr0
              obtain ⟨hP0, hP3⟩ := va_P_app.mp hPr1
              refine lv_aload_n hx hb dX0_matchingPairs_56 rfl (lv_at hl 3 rfl) ?_
              refine lv_aload_n hx hb dX0_matchingPairs_57 rfl (lv_at hl 4 rfl) ?_
              refine lv_iload_n hx hb dX0_matchingPairs_58 rfl (lv_at hl 5 rfl) ?_
              have hD : va_D (va_A (wF g a b d f1 ++ (wLs g b e1 e10 e11 ++ (wLs g d t1 t10 t11 ++ (wSs g sh m10 m11 m12)))) s.heap.size) (wLs g d (up (up e1 (61 + 5 * r + 2) (h : Int)) (3 + 0) ((w : Int) - 9)) x8 y8 ++ (wF g a b d f1 ++ (wLs g b e1 e10 e11 ++ (wSs g sh m10 m11 m12)))) := D_perm (List.Perm.append_left _ (List.perm_append_comm_assoc _ _ _)) hD
              have hD : va_D (va_A (wF g a b d f1 ++ (wLs g b e1 e10 e11 ++ (wLs g d t1 t10 t11 ++ (wSs g sh m10 m11 m12)))) s.heap.size) (wF g a b d f1 ++ (wLs g d (up (up e1 (61 + 5 * r + 2) (h : Int)) (3 + 0) ((w : Int) - 9)) x8 y8 ++ (wLs g b e1 e10 e11 ++ (wSs g sh m10 m11 m12)))) := D_perm (List.perm_append_comm_assoc _ _ _) hD
              have hD : va_D (va_A (wF g a b d f1 ++ (wLs g b e1 e10 e11 ++ (wLs g d t1 t10 t11 ++ (wSs g sh m10 m11 m12)))) s.heap.size) (wF g a b d f1 ++ (wLs g b e1 e10 e11 ++ (wLs g d (up (up e1 (61 + 5 * r + 2) (h : Int)) (3 + 0) ((w : Int) - 9)) x8 y8 ++ (wSs g sh m10 m11 m12)))) := D_perm (List.Perm.append_left _ (List.perm_append_comm_assoc _ _ _)) hD
              have hP : va_P g.1 vwCl (wF g a b d f1 ++ (wLs g b e1 e10 e11 ++ (wLs g d (up (up e1 (61 + 5 * r + 2) (h : Int)) (3 + 0) ((w : Int) - 9)) x8 y8 ++ (wSs g sh m10 m11 m12)))) H := va_P_app.mpr ⟨hP0, va_P_app.mpr ⟨hP1, va_P_app.mpr ⟨hP2, hP3⟩⟩⟩
              refine xm_i (rV (rest := []) hx hb hml hown hts hK hl (c_X0_trialGoesAs2 l g a f1 b e1 e10 e11 d (up (up e1 (61 + 5 * r + 2) (h : Int)) (3 + 0) ((w : Int) - 9)) x8 y8 sh m10 m11 m12 r H.size (show InvK 0 (up (up e1 (61 + 5 * r + 2) (h : Int)) (3 + 0) ((w : Int) - 9)) from hIu) (show (up (up e1 (61 + 5 * r + 2) (h : Int)) (3 + 0) ((w : Int) - 9)) 0 ≤ 9999 from by rw [up_n (by omega), up_n (by omega)]; omega) (show 0 ≤ r ∧ r < (up (up e1 (61 + 5 * r + 2) (h : Int)) (3 + 0) ((w : Int) - 9)) 1 from ⟨by omega, by rw [up_n (by omega), up_n (by omega)]; omega⟩) (show 0 ≤ m11 2 ∧ m11 2 ≤ 40 from by omega) (show ∀ j, LR (m12 j) from h5)) lk_X0_122 ⟨rfl, hP, hD.weaken (fun _ _ _ _ => trivial)⟩ (va_recv hK.1 hP0 (ci := 0) (q0 := 0) rfl rfl) rfl rfl rfl (Rm.of rfl) rfl rfl dX0_matchingPairs_59) hD hS hA (fun x9 u6 H locs hw hP hD hS => ?_)
              obtain rfl : x9 = iI (bI (soT (up (up e1 (61 + 5 * r + 2) (h : Int)) (3 + 0) ((w : Int) - 9)) m12 80 r (Int.toNat (m11 2)) = true)) := hw
              have hP : va_P g.1 vwCl (wF g a b d f1 ++ (wLs g b e1 e10 e11 ++ (wLs g d (u6 201) (u6 210) (u6 211) ++ (wSs g sh m10 m11 m12)))) H := hP
              have hD : va_D (va_A (wF g a b d f1 ++ (wLs g b e1 e10 e11 ++ (wLs g d t1 t10 t11 ++ (wSs g sh m10 m11 m12)))) s.heap.size) (wF g a b d f1 ++ (wLs g b e1 e10 e11 ++ (wLs g d (u6 201) (u6 210) (u6 211) ++ (wSs g sh m10 m11 m12)))) := hD
              obtain ⟨hP0, hPr0⟩ := va_P_app.mp hP
              obtain ⟨hP1, hPr1⟩ := va_P_app.mp hPr0
              obtain ⟨hP2, hP3⟩ := va_P_app.mp hPr1
              rcases bI_or (soT (up (up e1 (61 + 5 * r + 2) (h : Int)) (3 + 0) ((w : Int) - 9)) m12 80 r (Int.toNat (m11 2)) = true) with ⟨z6, e6⟩ | ⟨z6, e6⟩
              · rw [e6]
                refine xi_zf_eq hx hb ⟨by decide, by decide⟩ (by decide) dX0_matchingPairs_62 ⟨68, by decide⟩ ?_
                refine xi_inc (lv' := [(3, .int (iI (rdI (rdV e1 m12 80 r (m11 2)) h (rdO (rdV e1 m12 80 r (m11 2)) h) w + 1))), (5, .int (iI ((w : Int) - 9))), (4, .int (iI (h : Int))), (0, .ref (a 0)), (1, .ref (sh 4)), (2, .int (iI r))]) hx hb dX0_matchingPairs_65 hl (k := 2) rfl (by decide) rfl (fun ls hl => ?_)
                refine xi_inc (lv' := [(5, .int (iI ((w : Int) - 9 + 1))), (3, .int (iI (rdI (rdV e1 m12 80 r (m11 2)) h (rdO (rdV e1 m12 80 r (m11 2)) h) w + 1))), (4, .int (iI (h : Int))), (0, .ref (a 0)), (1, .ref (sh 4)), (2, .int (iI r))]) hx hb dX0_matchingPairs_68 hl (k := 1) rfl (by decide) rfl (fun ls hl => ?_)
                refine lv_goto (tgt := 16) hx hb dX0_matchingPairs_71 (by decide) ?_
                have hq7 : ((w : Int) - 9 + 1) = (((w + 1) : Int) - 9) := by omega
                have hq8 : (rdI (rdV e1 m12 80 r (m11 2)) h (rdO (rdV e1 m12 80 r (m11 2)) h) w + 1) = (rdI (rdV e1 m12 80 r (m11 2)) h (rdO (rdV e1 m12 80 r (m11 2)) h) (w + 1)) := by show _ = rdI (rdV e1 m12 80 r (m11 2)) h (rdO (rdV e1 m12 80 r (m11 2)) h) w + (rdV e1 m12 80 r (m11 2)) h w; unfold rdV; first | (rw [if_pos (by assumption)]; done) | (rw [if_neg (by assumption)]; omega)
                have hl : lv_has ls 6 [(5, .int (iI ((w : Int) - 9 + 1))), (4, .int (iI (h : Int))), (3, .int (iI (rdI (rdV e1 m12 80 r (m11 2)) h (rdO (rdV e1 m12 80 r (m11 2)) h) w + 1))), (0, .ref (a 0)), (1, .ref (sh 4)), (2, .int (iI r))] := lv_sub hl [0, 2, 1, 3, 4, 5] rfl
                have hl := Eq.mp (congrArg (fun z9 => lv_has ls 6 [(5, .int (iI z9)), (4, .int (iI (h : Int))), (3, .int (iI (rdI (rdV e1 m12 80 r (m11 2)) h (rdO (rdV e1 m12 80 r (m11 2)) h) w + 1))), (0, .ref (a 0)), (1, .ref (sh 4)), (2, .int (iI r))]) hq7) hl
                have hl := Eq.mp (congrArg (fun z9 => lv_has ls 6 [(5, .int (iI (((w + 1) : Int) - 9))), (4, .int (iI (h : Int))), (3, .int (iI z9)), (0, .ref (a 0)), (1, .ref (sh 4)), (2, .int (iI r))]) hq8) hl
                exact ih16 (w + 1) (u6 201) (u6 210) (u6 211) (by omega) (by omega) ls hl H locs hP hD hS
              · rw [e6]
                refine xi_zt_eq (tgt := 68) hx hb ⟨by decide, by decide⟩ (by decide) dX0_matchingPairs_62 (by decide) ?_
                refine xi_inc (lv' := [(5, .int (iI ((w : Int) - 9 + 1))), (4, .int (iI (h : Int))), (3, .int (iI (rdI (rdV e1 m12 80 r (m11 2)) h (rdO (rdV e1 m12 80 r (m11 2)) h) w))), (0, .ref (a 0)), (1, .ref (sh 4)), (2, .int (iI r))]) hx hb dX0_matchingPairs_68 hl (k := 0) rfl (by decide) rfl (fun ls hl => ?_)
                refine lv_goto (tgt := 16) hx hb dX0_matchingPairs_71 (by decide) ?_
                have hq9 : ((w : Int) - 9 + 1) = (((w + 1) : Int) - 9) := by omega
                have hq10 : (rdI (rdV e1 m12 80 r (m11 2)) h (rdO (rdV e1 m12 80 r (m11 2)) h) w) = (rdI (rdV e1 m12 80 r (m11 2)) h (rdO (rdV e1 m12 80 r (m11 2)) h) (w + 1)) := by show _ = rdI (rdV e1 m12 80 r (m11 2)) h (rdO (rdV e1 m12 80 r (m11 2)) h) w + (rdV e1 m12 80 r (m11 2)) h w; unfold rdV; first | (rw [if_pos (by assumption)]; done) | (rw [if_neg (by assumption)]; omega)
                have hl : lv_has ls 6 [(5, .int (iI ((w : Int) - 9 + 1))), (4, .int (iI (h : Int))), (3, .int (iI (rdI (rdV e1 m12 80 r (m11 2)) h (rdO (rdV e1 m12 80 r (m11 2)) h) w))), (0, .ref (a 0)), (1, .ref (sh 4)), (2, .int (iI r))] := lv_sub hl [0, 1, 2, 3, 4, 5] rfl
                have hl := Eq.mp (congrArg (fun z9 => lv_has ls 6 [(5, .int (iI z9)), (4, .int (iI (h : Int))), (3, .int (iI (rdI (rdV e1 m12 80 r (m11 2)) h (rdO (rdV e1 m12 80 r (m11 2)) h) w))), (0, .ref (a 0)), (1, .ref (sh 4)), (2, .int (iI r))]) hq9) hl
                have hl := Eq.mp (congrArg (fun z9 => lv_has ls 6 [(5, .int (iI (((w + 1) : Int) - 9))), (4, .int (iI (h : Int))), (3, .int (iI z9)), (0, .ref (a 0)), (1, .ref (sh 4)), (2, .int (iI r))]) hq10) hl
                exact ih16 (w + 1) (u6 201) (u6 210) (u6 211) (by omega) (by omega) ls hl H locs hP hD hS
        have hq11 : (-9) = ((0 : Int) - 9) := rfl
        have hq12 : (rdO (rdV e1 m12 80 r (m11 2)) h) = (rdI (rdV e1 m12 80 r (m11 2)) h (rdO (rdV e1 m12 80 r (m11 2)) h) 0) := rfl
        have hl : lv_has ls 6 [(5, .int (iI (-9))), (4, .int (iI (h : Int))), (3, .int (iI (rdO (rdV e1 m12 80 r (m11 2)) h))), (0, .ref (a 0)), (1, .ref (sh 4)), (2, .int (iI r))] := lv_sub hl [0, 1, 2, 3, 4, 5] rfl
        have hl := Eq.mp (congrArg (fun z9 => lv_has ls 6 [(5, .int (iI z9)), (4, .int (iI (h : Int))), (3, .int (iI (rdO (rdV e1 m12 80 r (m11 2)) h))), (0, .ref (a 0)), (1, .ref (sh 4)), (2, .int (iI r))]) hq11) hl
        have hl := Eq.mp (congrArg (fun z9 => lv_has ls 6 [(5, .int (iI ((0 : Int) - 9))), (4, .int (iI (h : Int))), (3, .int (iI z9)), (0, .ref (a 0)), (1, .ref (sh 4)), (2, .int (iI r))]) hq12) hl
        exact lp16 (19 + 1) 0 v9 x9 y9 (by omega) (by omega) ls hl H locs hP hD hS
  have hq13 : 0 = (0 : Int) := rfl
  have hq14 : 0 = (rdO (rdV e1 m12 80 r (m11 2)) 0) := rfl
  have hl : lv_has ls 6 [(4, .int (iI 0)), (3, .int (iI 0)), (0, .ref (a 0)), (1, .ref (sh 4)), (2, .int (iI r))] := lv_sub hl [0, 1, 2, 3, 4] rfl
  have hl := Eq.mp (congrArg (fun z9 => lv_has ls 6 [(4, .int (iI z9)), (3, .int (iI 0)), (0, .ref (a 0)), (1, .ref (sh 4)), (2, .int (iI r))]) hq13) hl
  have hl := Eq.mp (congrArg (fun z9 => lv_has ls 6 [(4, .int (iI (0 : Int))), (3, .int (iI z9)), (0, .ref (a 0)), (1, .ref (sh 4)), (2, .int (iI r))]) hq14) hl
  exact lp5 (10 + 1) 0 t1 t10 t11 (by omega) (by omega) ls hl s.heap [] hP hD hS
set_option maxRecDepth 100000 in
set_option maxHeartbeats 4000000 in
theorem c_X0_bookCells3 (l : Launch) (g : Gd) (a : Nat → Nat) (f1 : Int → Int) (b : Nat → Nat) (e1 : Int → Int) (e10 : Int → Int) (e11 : Int → Int) (d : Nat → Nat) (t1 : Int → Int) (t10 : Int → Int) (t11 : Int → Int) (sh : Nat → Nat) (m10 : Int → Int) (m11 : Int → Int) (m12 : Int → Int) (r : Int) (sz : Nat) (h1 : InvK 0 e1) (h2 : e1 0 ≤ 9999) (h3 : 0 ≤ r ∧ r < e1 1) (h4 : 0 ≤ m11 3 ∧ m11 3 ≤ 40) (h5 : IR (m10 3)) : Met l yX0_bookCells (wsOf yX0_bookCells cX0_bookCells 4 none) rm_X0_bookCells (PX g (wP g (wF g a b d f1 ++ (wLs g b e1 e10 e11 ++ (wLs g d t1 t10 t11 ++ (wSs g sh m10 m11 m12)))) sz) [.ref (a 0), .ref (sh 6), .int (iI r)]) (QMv g (fun u9 : Nat → Int → Int => wF g a b d f1 ++ (wLs g b e1 e10 e11 ++ (wLs g d (u9 201) (u9 210) (u9 211) ++ (wSs g sh m10 m11 (bkT e1 m12 120 r (m11 3)))))) (fun _ => True) (va_A (wF g a b d f1 ++ (wLs g b e1 e10 e11 ++ (wLs g d t1 t10 t11 ++ (wSs g sh m10 m11 m12)))) sz)) 0 0 (va_A (wF g a b d f1 ++ (wLs g b e1 e10 e11 ++ (wLs g d t1 t10 t11 ++ (wSs g sh m10 m11 m12)))) sz) := by
  refine me (g := g) (by decide) rfl ?_
  intro pq eq s mq below meth cq C hnm hB ls hl
  obtain ⟨hx, hb, hr, hml, hown, hts, hlocks, hK⟩ := C
  have hown : s.vm.findClass RX0 = some mq.cls := hown
  have hl : lv_has ls 4 [(0, .ref (a 0)), (1, .ref (sh 6)), (2, .int (iI r))] := hl
  obtain ⟨hsz, hP, hD0⟩ := hB
  subst hsz
  have hD := hD0.self (sz := s.heap.size)
  have hA : ∀ q : Nat, s.heap.size ≤ q → va_A (wF g a b d f1 ++ (wLs g b e1 e10 e11 ++ (wLs g d t1 t10 t11 ++ (wSs g sh m10 m11 m12)))) s.heap.size q := fun q h => Or.inr h
  have hS : va_S (va_A (wF g a b d f1 ++ (wLs g b e1 e10 e11 ++ (wLs g d t1 t10 t11 ++ (wSs g sh m10 m11 m12)))) s.heap.size) s.heap s.heap [] := va_S.rf
  obtain ⟨hP0, hPr0⟩ := va_P_app.mp hP
  obtain ⟨hP1, hPr1⟩ := va_P_app.mp hPr0
  obtain ⟨hP2, hP3⟩ := va_P_app.mp hPr1
  have hI := h1
  have hI8 : Inv e1 := h1.mono (by omega)
  have hn := hI.num
  have hs := hI.sea
  have hv := hI.vil
  have hnw : ∀ v, 0 ≤ v → v ≤ 23 → nrw (m10 3) v = v := fun v h0 h1 => nrw_s h0 h1
  refine lv_aload_n hx hb dX0_bookCells_0 rfl (lv_at hl 0 rfl) ?_
  refine xg_X0 hx hb hts hown hK hP0 0 rfl 1 (by decide) fk_X0_12 (v := .ref (d 0)) rfl dX0_bookCells_1 ?_
  refine lv_aload_n hx hb dX0_bookCells_4 rfl (lv_at hl 0 rfl) ?_
  refine xg_X0 hx hb hts hown hK hP0 0 rfl 0 (by decide) fk_X0_22 (v := .ref (b 0)) rfl dX0_bookCells_5 ?_
  have hD : va_D (va_A (wF g a b d f1 ++ (wLs g b e1 e10 e11 ++ (wLs g d t1 t10 t11 ++ (wSs g sh m10 m11 m12)))) s.heap.size) (wF g a b d f1 ++ (wLs g d t1 t10 t11 ++ (wLs g b e1 e10 e11 ++ (wSs g sh m10 m11 m12)))) := D_perm (List.Perm.append_left _ (List.perm_append_comm_assoc _ _ _)) hD
  have hD : va_D (va_A (wF g a b d f1 ++ (wLs g b e1 e10 e11 ++ (wLs g d t1 t10 t11 ++ (wSs g sh m10 m11 m12)))) s.heap.size) (wLs g d t1 t10 t11 ++ (wF g a b d f1 ++ (wLs g b e1 e10 e11 ++ (wSs g sh m10 m11 m12)))) := D_perm (List.perm_append_comm_assoc _ _ _) hD
  have hD : va_D (va_A (wF g a b d f1 ++ (wLs g b e1 e10 e11 ++ (wLs g d t1 t10 t11 ++ (wSs g sh m10 m11 m12)))) s.heap.size) (wLs g d t1 t10 t11 ++ (wLs g b e1 e10 e11 ++ (wF g a b d f1 ++ (wSs g sh m10 m11 m12)))) := D_perm (List.Perm.append_left _ (List.perm_append_comm_assoc _ _ _)) hD
  have hP : va_P g.1 vwCl (wLs g d t1 t10 t11 ++ (wLs g b e1 e10 e11 ++ (wF g a b d f1 ++ (wSs g sh m10 m11 m12)))) s.heap := va_P_app.mpr ⟨hP2, va_P_app.mpr ⟨hP1, va_P_app.mpr ⟨hP0, hP3⟩⟩⟩
  have hP : va_P g.1 vwCl ((wLs g d t1 t10 t11 ++ (wLs g b e1 e10 e11)) ++ (wF g a b d f1 ++ (wSs g sh m10 m11 m12))) s.heap := by rw [List.append_assoc]; exact hP
  have hD : va_D (va_A (wF g a b d f1 ++ (wLs g b e1 e10 e11 ++ (wLs g d t1 t10 t11 ++ (wSs g sh m10 m11 m12)))) s.heap.size) ((wLs g d t1 t10 t11 ++ (wLs g b e1 e10 e11)) ++ (wF g a b d f1 ++ (wSs g sh m10 m11 m12))) := by rw [List.append_assoc]; exact hD
  refine xmF_v (rVN (rest := []) hx hb hml hown hts hK hl (c_X1_becomes l g d t1 t10 t11 b e1 e10 e11 (s.heap).size ) lk_X0_25 ⟨rfl, (va_P_app.mp hP).1, (va_D_app hD).1.weaken (fun _ _ _ _ => trivial)⟩ (va_recv hK.1 hP2 (ci := 1) (q0 := 0) rfl rfl) rfl rfl rfl (Rm.of rfl) rfl rfl dX0_bookCells_8) hP hD hS hA (fun _ H locs hw hP hD hS => ?_)
  have hP : va_P g.1 vwCl ((wLs g d e1 t10 t11 ++ (wLs g b e1 e10 e11)) ++ (wF g a b d f1 ++ (wSs g sh m10 m11 m12))) H := hP
  have hD : va_D (va_A (wF g a b d f1 ++ (wLs g b e1 e10 e11 ++ (wLs g d t1 t10 t11 ++ (wSs g sh m10 m11 m12)))) s.heap.size) ((wLs g d e1 t10 t11 ++ (wLs g b e1 e10 e11)) ++ (wF g a b d f1 ++ (wSs g sh m10 m11 m12))) := hD
  rw [List.append_assoc] at hP hD
  have hP : va_P g.1 vwCl (wLs g d e1 t10 t11 ++ (wLs g b e1 e10 e11 ++ (wF g a b d f1 ++ (wSs g sh m10 m11 m12)))) H := hP
  have hD : va_D (va_A (wF g a b d f1 ++ (wLs g b e1 e10 e11 ++ (wLs g d t1 t10 t11 ++ (wSs g sh m10 m11 m12)))) s.heap.size) (wLs g d e1 t10 t11 ++ (wLs g b e1 e10 e11 ++ (wF g a b d f1 ++ (wSs g sh m10 m11 m12)))) := hD
  obtain ⟨hP2, hPr0⟩ := va_P_app.mp hP
  obtain ⟨hP1, hPr1⟩ := va_P_app.mp hPr0
  obtain ⟨hP0, hP3⟩ := va_P_app.mp hPr1
  refine lv_iconst (v := iI (0)) hx hb dX0_bookCells_11 (by decide) ?_
  refine lv_istore_n (lv' := [(3, .int (iI 0)), (0, .ref (a 0)), (1, .ref (sh 6)), (2, .int (iI r))]) hx hb dX0_bookCells_12 rfl hl (by decide) rfl (fun ls hl => ?_)
  have lp13 : ∀ (n13 : Nat) (j : Nat) (x9 : Int → Int) (y9 : Int → Int), ((j : Int) ≤ m11 3) → 40 - j < n13 → ∀ ls : Array Slot, lv_has ls 4 [(3, .int (iI (j : Int))), (0, .ref (a 0)), (1, .ref (sh 6)), (2, .int (iI r))] → ∀ (H : Heap) (locs : List Loc), va_P g.1 vwCl (wLs g d (seaN e1 j) x9 y9 ++ (wLs g b e1 e10 e11 ++ (wF g a b d f1 ++ (wSs g sh m10 m11 (bkT e1 m12 120 r (((j) : Nat) : Int)))))) H → va_D (va_A (wF g a b d f1 ++ (wLs g b e1 e10 e11 ++ (wLs g d t1 t10 t11 ++ (wSs g sh m10 m11 m12)))) s.heap.size) (wLs g d (seaN e1 j) x9 y9 ++ (wLs g b e1 e10 e11 ++ (wF g a b d f1 ++ (wSs g sh m10 m11 (bkT e1 m12 120 r (((j) : Nat) : Int)))))) → va_S (va_A (wF g a b d f1 ++ (wLs g b e1 e10 e11 ++ (wLs g d t1 t10 t11 ++ (wSs g sh m10 m11 m12)))) s.heap.size) s.heap H locs → W pq l eq rm_X0_bookCells s mq [.ref (a 0), .ref (sh 6), .int (iI r)].toArray below meth cq H locs 0 0 (MQ below (QMv g (fun u9 : Nat → Int → Int => wF g a b d f1 ++ (wLs g b e1 e10 e11 ++ (wLs g d (u9 201) (u9 210) (u9 211) ++ (wSs g sh m10 m11 (bkT e1 m12 120 r (m11 3)))))) (fun _ => True) (va_A (wF g a b d f1 ++ (wLs g b e1 e10 e11 ++ (wLs g d t1 t10 t11 ++ (wSs g sh m10 m11 m12)))) s.heap.size)) [.ref (a 0), .ref (sh 6), .int (iI r)].toArray s 0 0 (va_A (wF g a b d f1 ++ (wLs g b e1 e10 e11 ++ (wLs g d t1 t10 t11 ++ (wSs g sh m10 m11 m12)))) s.heap.size)) (F0 mq 13 ls []) := by
    intro n13
    induction n13 with
    | zero => intro j x9 y9 i13_1 hm; exact absurd hm (Nat.not_lt_zero _)
    | succ n13 ih13 =>
      intro j x9 y9 i13_1 hm13 ls hl H locs hP hD hS
      have hsn := seaN_inv hI j (by omega)
      have hs0 := hsn.2.1
      have hs1 := hsn.2.2 1 (by omega) (by omega)
      have hcr := hsn.1.ran r (by omega) (by omega)
      obtain ⟨hP2, hPr0⟩ := va_P_app.mp hP
      obtain ⟨hP1, hPr1⟩ := va_P_app.mp hPr0
      obtain ⟨hP0, hP3⟩ := va_P_app.mp hPr1
      refine lv_iload_n hx hb dX0_bookCells_13 rfl (lv_at hl 0 rfl) ?_
      refine lv_aload_n hx hb dX0_bookCells_14 rfl (lv_at hl 2 rfl) ?_
      refine xgN_X2 hx hb hts hown hK hP3 6 rfl 2 (by decide) fk_X0_113 (v := .int (iI (m11 3))) rfl dX0_bookCells_15 ?_
      refine xi_c_ge (tgt := 49) hx hb ⟨by omega, by omega⟩ ⟨by omega, by omega⟩ dX0_bookCells_18 (by decide) (fun z2 => ?_) (fun z2 => ?_)
      · have hD : va_D (va_A (wF g a b d f1 ++ (wLs g b e1 e10 e11 ++ (wLs g d t1 t10 t11 ++ (wSs g sh m10 m11 m12)))) s.heap.size) (wLs g d (seaN e1 j) x9 y9 ++ (wF g a b d f1 ++ (wLs g b e1 e10 e11 ++ (wSs g sh m10 m11 (bkT e1 m12 120 r (((j) : Nat) : Int)))))) := D_perm (List.Perm.append_left _ (List.perm_append_comm_assoc _ _ _)) hD
        have hD : va_D (va_A (wF g a b d f1 ++ (wLs g b e1 e10 e11 ++ (wLs g d t1 t10 t11 ++ (wSs g sh m10 m11 m12)))) s.heap.size) (wF g a b d f1 ++ (wLs g d (seaN e1 j) x9 y9 ++ (wLs g b e1 e10 e11 ++ (wSs g sh m10 m11 (bkT e1 m12 120 r (((j) : Nat) : Int)))))) := D_perm (List.perm_append_comm_assoc _ _ _) hD
        have hD : va_D (va_A (wF g a b d f1 ++ (wLs g b e1 e10 e11 ++ (wLs g d t1 t10 t11 ++ (wSs g sh m10 m11 m12)))) s.heap.size) (wF g a b d f1 ++ (wLs g b e1 e10 e11 ++ (wLs g d (seaN e1 j) x9 y9 ++ (wSs g sh m10 m11 (bkT e1 m12 120 r (((j) : Nat) : Int)))))) := D_perm (List.Perm.append_left _ (List.perm_append_comm_assoc _ _ _)) hD
        have hP : va_P g.1 vwCl (wF g a b d f1 ++ (wLs g b e1 e10 e11 ++ (wLs g d (seaN e1 j) x9 y9 ++ (wSs g sh m10 m11 (bkT e1 m12 120 r (((j) : Nat) : Int)))))) H := va_P_app.mpr ⟨hP0, va_P_app.mpr ⟨hP1, va_P_app.mpr ⟨hP2, hP3⟩⟩⟩
        have he3 : (bkT e1 m12 120 r (((j) : Nat) : Int)) = (bkT e1 m12 120 r (m11 3)) := by rw [show ((j : Nat) : Int) = m11 3 by omega]
        have hP := Eq.mp (congrArg (fun z9 => va_P g.1 vwCl (wF g a b d f1 ++ (wLs g b e1 e10 e11 ++ (wLs g d (seaN e1 j) x9 y9 ++ (wSs g sh m10 m11 z9)))) H) he3) hP
        have hD := Eq.mp (congrArg (fun z9 => va_D (va_A (wF g a b d f1 ++ (wLs g b e1 e10 e11 ++ (wLs g d t1 t10 t11 ++ (wSs g sh m10 m11 m12)))) s.heap.size) (wF g a b d f1 ++ (wLs g b e1 e10 e11 ++ (wLs g d (seaN e1 j) x9 y9 ++ (wSs g sh m10 m11 z9))))) he3) hD
        obtain ⟨hP0, hPr0⟩ := va_P_app.mp hP
        obtain ⟨hP1, hPr1⟩ := va_P_app.mp hPr0
        obtain ⟨hP2, hP3⟩ := va_P_app.mp hPr1
        have hP : va_P g.1 vwCl (wF g a b d f1 ++ (wLs g b e1 e10 e11 ++ (wLs g d ((su (su (su (fun _ _ => 0) 201 (seaN e1 j)) 210 x9) 211 y9) 201) ((su (su (su (fun _ _ => 0) 201 (seaN e1 j)) 210 x9) 211 y9) 210) ((su (su (su (fun _ _ => 0) 201 (seaN e1 j)) 210 x9) 211 y9) 211) ++ (wSs g sh m10 m11 (bkT e1 m12 120 r (m11 3)))))) H := hP
        have hD : va_D (va_A (wF g a b d f1 ++ (wLs g b e1 e10 e11 ++ (wLs g d t1 t10 t11 ++ (wSs g sh m10 m11 m12)))) s.heap.size) (wF g a b d f1 ++ (wLs g b e1 e10 e11 ++ (wLs g d ((su (su (su (fun _ _ => 0) 201 (seaN e1 j)) 210 x9) 211 y9) 201) ((su (su (su (fun _ _ => 0) 201 (seaN e1 j)) 210 x9) 211 y9) 210) ((su (su (su (fun _ _ => 0) 201 (seaN e1 j)) 210 x9) 211 y9) 211) ++ (wSs g sh m10 m11 (bkT e1 m12 120 r (m11 3)))))) := hD
        exact W.vret hx hb hr (fun t ht hW => ⟨⟨(su (su (su (fun _ _ => 0) 201 (seaN e1 j)) 210 x9) 211 y9), rfl, trivial, by rw [ht]; exact hP, hD⟩, hS.F ht⟩) hS.2.2 dX0_bookCells_49
      · refine lv_aload_n hx hb dX0_bookCells_21 rfl (lv_at hl 2 rfl) ?_
        refine lv_iload_n hx hb dX0_bookCells_22 rfl (lv_at hl 0 rfl) ?_
        refine lv_aload_n hx hb dX0_bookCells_23 rfl (lv_at hl 1 rfl) ?_
        refine xg_X0 hx hb hts hown hK hP0 0 rfl 1 (by decide) fk_X0_12 (v := .ref (d 0)) rfl dX0_bookCells_24 ?_
        refine xgN_X1 hx hb hts hown hK hP2 0 rfl 8 (by decide) fk_X0_33 (v := .ref (d 6)) rfl dX0_bookCells_27 ?_
        refine lv_iload_n hx hb dX0_bookCells_30 rfl (lv_at hl 3 rfl) ?_
        refine xi_alz hx hb hK hP2 6 (s0 := seaN e1 j) rfl (i := r) ⟨by omega, by omega⟩ rfl dX0_bookCells_31 ?_
        refine xi_i2l hx hb ⟨by omega, by omega⟩ dX0_bookCells_32 ?_
        have hD : va_D (va_A (wF g a b d f1 ++ (wLs g b e1 e10 e11 ++ (wLs g d t1 t10 t11 ++ (wSs g sh m10 m11 m12)))) s.heap.size) (wLs g d (seaN e1 j) x9 y9 ++ (wLs g b e1 e10 e11 ++ (wSs g sh m10 m11 (bkT e1 m12 120 r (((j) : Nat) : Int)) ++ (wF g a b d f1)))) := D_perm (List.Perm.append_left _ (List.Perm.append_left _ (List.perm_append_comm))) hD
        have hD : va_D (va_A (wF g a b d f1 ++ (wLs g b e1 e10 e11 ++ (wLs g d t1 t10 t11 ++ (wSs g sh m10 m11 m12)))) s.heap.size) (wLs g d (seaN e1 j) x9 y9 ++ (wSs g sh m10 m11 (bkT e1 m12 120 r (((j) : Nat) : Int)) ++ (wLs g b e1 e10 e11 ++ (wF g a b d f1)))) := D_perm (List.Perm.append_left _ (List.perm_append_comm_assoc _ _ _)) hD
        have hD : va_D (va_A (wF g a b d f1 ++ (wLs g b e1 e10 e11 ++ (wLs g d t1 t10 t11 ++ (wSs g sh m10 m11 m12)))) s.heap.size) (wSs g sh m10 m11 (bkT e1 m12 120 r (((j) : Nat) : Int)) ++ (wLs g d (seaN e1 j) x9 y9 ++ (wLs g b e1 e10 e11 ++ (wF g a b d f1)))) := D_perm (List.perm_append_comm_assoc _ _ _) hD
        have hP : va_P g.1 vwCl (wSs g sh m10 m11 (bkT e1 m12 120 r (((j) : Nat) : Int)) ++ (wLs g d (seaN e1 j) x9 y9 ++ (wLs g b e1 e10 e11 ++ (wF g a b d f1)))) H := va_P_app.mpr ⟨hP3, va_P_app.mpr ⟨hP2, va_P_app.mpr ⟨hP1, hP0⟩⟩⟩
        refine xmF_v (rVN (rest := []) hx hb hml hown hts hK hl (c_X2_put3 l g sh m10 m11 (bkT e1 m12 120 r (((j) : Nat) : Int)) (j : Int) ((seaN e1 j) (61 + 5 * r + 1)) H.size (show IR (m10 3) from h5) (show 0 ≤ (j : Int) ∧ (j : Int) < 40 from by omega)) lk_X0_118 ⟨rfl, hP3, (va_D_app hD).1.weaken (fun _ _ _ _ => trivial)⟩ (va_recv hK.1 hP3 (ci := 2) (q0 := 6) rfl rfl) rfl rfl rfl (Rm.of rfl) rfl rfl dX0_bookCells_33) hP hD hS hA (fun _ H locs hw hP hD hS => ?_)
        have hP : va_P g.1 vwCl (wSs g sh m10 m11 (up (bkT e1 m12 120 r (((j) : Nat) : Int)) (120 + (j : Int)) (nrw (m10 3) ((seaN e1 j) (61 + 5 * r + 1)))) ++ (wLs g d (seaN e1 j) x9 y9 ++ (wLs g b e1 e10 e11 ++ (wF g a b d f1)))) H := hP
        have hD : va_D (va_A (wF g a b d f1 ++ (wLs g b e1 e10 e11 ++ (wLs g d t1 t10 t11 ++ (wSs g sh m10 m11 m12)))) s.heap.size) (wSs g sh m10 m11 (up (bkT e1 m12 120 r (((j) : Nat) : Int)) (120 + (j : Int)) (nrw (m10 3) ((seaN e1 j) (61 + 5 * r + 1)))) ++ (wLs g d (seaN e1 j) x9 y9 ++ (wLs g b e1 e10 e11 ++ (wF g a b d f1)))) := hD
        obtain ⟨hP3, hPr0⟩ := va_P_app.mp hP
        obtain ⟨hP2, hPr1⟩ := va_P_app.mp hPr0
        obtain ⟨hP1, hP0⟩ := va_P_app.mp hPr1
        refine lv_aload_n hx hb dX0_bookCells_36 rfl (lv_at hl 1 rfl) ?_
        refine xg_X0 hx hb hts hown hK hP0 0 rfl 1 (by decide) fk_X0_12 (v := .ref (d 0)) rfl dX0_bookCells_37 ?_
        have hD : va_D (va_A (wF g a b d f1 ++ (wLs g b e1 e10 e11 ++ (wLs g d t1 t10 t11 ++ (wSs g sh m10 m11 m12)))) s.heap.size) (wLs g d (seaN e1 j) x9 y9 ++ (wSs g sh m10 m11 (up (bkT e1 m12 120 r (((j) : Nat) : Int)) (120 + (j : Int)) (nrw (m10 3) ((seaN e1 j) (61 + 5 * r + 1)))) ++ (wLs g b e1 e10 e11 ++ (wF g a b d f1)))) := D_perm (List.perm_append_comm_assoc _ _ _) hD
        have hP : va_P g.1 vwCl (wLs g d (seaN e1 j) x9 y9 ++ (wSs g sh m10 m11 (up (bkT e1 m12 120 r (((j) : Nat) : Int)) (120 + (j : Int)) (nrw (m10 3) ((seaN e1 j) (61 + 5 * r + 1)))) ++ (wLs g b e1 e10 e11 ++ (wF g a b d f1)))) H := va_P_app.mpr ⟨hP2, va_P_app.mpr ⟨hP3, va_P_app.mpr ⟨hP1, hP0⟩⟩⟩
        refine xmF_v (rVN (rest := []) hx hb hml hown hts hK hl (c_X1_goSeason l g d (seaN e1 j) x9 y9 H.size (show InvK 0 (seaN e1 j) from hsn.1) (show (seaN e1 j) 0 < 20000 from by omega)) lk_X0_36 ⟨rfl, hP2, (va_D_app hD).1.weaken (fun _ _ _ _ => trivial)⟩ (va_recv hK.1 hP2 (ci := 1) (q0 := 0) rfl rfl) rfl rfl rfl (Rm.of rfl) rfl rfl dX0_bookCells_40) hP hD hS hA (fun u5 H locs hw hP hD hS => ?_)
        have hP : va_P g.1 vwCl (wLs g d (sea (seaN e1 j)) (u5 10) (u5 11) ++ (wSs g sh m10 m11 (up (bkT e1 m12 120 r (((j) : Nat) : Int)) (120 + (j : Int)) (nrw (m10 3) ((seaN e1 j) (61 + 5 * r + 1)))) ++ (wLs g b e1 e10 e11 ++ (wF g a b d f1)))) H := hP
        have hD : va_D (va_A (wF g a b d f1 ++ (wLs g b e1 e10 e11 ++ (wLs g d t1 t10 t11 ++ (wSs g sh m10 m11 m12)))) s.heap.size) (wLs g d (sea (seaN e1 j)) (u5 10) (u5 11) ++ (wSs g sh m10 m11 (up (bkT e1 m12 120 r (((j) : Nat) : Int)) (120 + (j : Int)) (nrw (m10 3) ((seaN e1 j) (61 + 5 * r + 1)))) ++ (wLs g b e1 e10 e11 ++ (wF g a b d f1)))) := hD
        obtain ⟨hP2, hPr0⟩ := va_P_app.mp hP
        obtain ⟨hP3, hPr1⟩ := va_P_app.mp hPr0
        obtain ⟨hP1, hP0⟩ := va_P_app.mp hPr1
        refine xi_inc (lv' := [(3, .int (iI ((j : Int) + 1))), (0, .ref (a 0)), (1, .ref (sh 6)), (2, .int (iI r))]) hx hb dX0_bookCells_43 hl (k := 0) rfl (by decide) rfl (fun ls hl => ?_)
        refine lv_goto (tgt := 13) hx hb dX0_bookCells_46 (by decide) ?_
        have hq6 : ((j : Int) + 1) = ((j + 1) : Int) := by omega
        have hl : lv_has ls 4 [(3, .int (iI ((j : Int) + 1))), (0, .ref (a 0)), (1, .ref (sh 6)), (2, .int (iI r))] := lv_sub hl [0, 1, 2, 3] rfl
        have hl := Eq.mp (congrArg (fun z9 => lv_has ls 4 [(3, .int (iI z9)), (0, .ref (a 0)), (1, .ref (sh 6)), (2, .int (iI r))]) hq6) hl
        have hq7 : (sea (seaN e1 j)) = (seaN e1 (j + 1)) := rfl
        have hP := Eq.mp (congrArg (fun z9 => va_P g.1 vwCl (wLs g d z9 (u5 10) (u5 11) ++ (wSs g sh m10 m11 (up (bkT e1 m12 120 r (((j) : Nat) : Int)) (120 + (j : Int)) (nrw (m10 3) ((seaN e1 j) (61 + 5 * r + 1)))) ++ (wLs g b e1 e10 e11 ++ (wF g a b d f1)))) H) hq7) hP
        have hD := Eq.mp (congrArg (fun z9 => va_D (va_A (wF g a b d f1 ++ (wLs g b e1 e10 e11 ++ (wLs g d t1 t10 t11 ++ (wSs g sh m10 m11 m12)))) s.heap.size) (wLs g d z9 (u5 10) (u5 11) ++ (wSs g sh m10 m11 (up (bkT e1 m12 120 r (((j) : Nat) : Int)) (120 + (j : Int)) (nrw (m10 3) ((seaN e1 j) (61 + 5 * r + 1)))) ++ (wLs g b e1 e10 e11 ++ (wF g a b d f1))))) hq7) hD
        obtain ⟨hP2, hPr0⟩ := va_P_app.mp hP
        obtain ⟨hP3, hPr1⟩ := va_P_app.mp hPr0
        obtain ⟨hP1, hP0⟩ := va_P_app.mp hPr1
        have hq8 : (up (bkT e1 m12 120 r (((j) : Nat) : Int)) (120 + (j : Int)) (nrw (m10 3) ((seaN e1 j) (61 + 5 * r + 1)))) = (bkT e1 m12 120 r ((((j + 1)) : Nat) : Int)) := by rw [← bkT_S e1 m12 120 r j]; congr 1; exact hnw _ (by omega) (by omega)
        have hP := Eq.mp (congrArg (fun z9 => va_P g.1 vwCl (wLs g d (seaN e1 (j + 1)) (u5 10) (u5 11) ++ (wSs g sh m10 m11 z9 ++ (wLs g b e1 e10 e11 ++ (wF g a b d f1)))) H) hq8) hP
        have hD := Eq.mp (congrArg (fun z9 => va_D (va_A (wF g a b d f1 ++ (wLs g b e1 e10 e11 ++ (wLs g d t1 t10 t11 ++ (wSs g sh m10 m11 m12)))) s.heap.size) (wLs g d (seaN e1 (j + 1)) (u5 10) (u5 11) ++ (wSs g sh m10 m11 z9 ++ (wLs g b e1 e10 e11 ++ (wF g a b d f1))))) hq8) hD
        obtain ⟨hP2, hPr0⟩ := va_P_app.mp hP
        obtain ⟨hP3, hPr1⟩ := va_P_app.mp hPr0
        obtain ⟨hP1, hP0⟩ := va_P_app.mp hPr1
        have hD : va_D (va_A (wF g a b d f1 ++ (wLs g b e1 e10 e11 ++ (wLs g d t1 t10 t11 ++ (wSs g sh m10 m11 m12)))) s.heap.size) (wLs g d (seaN e1 (j + 1)) (u5 10) (u5 11) ++ (wLs g b e1 e10 e11 ++ (wSs g sh m10 m11 (bkT e1 m12 120 r ((((j + 1)) : Nat) : Int)) ++ (wF g a b d f1)))) := D_perm (List.Perm.append_left _ (List.perm_append_comm_assoc _ _ _)) hD
        have hD : va_D (va_A (wF g a b d f1 ++ (wLs g b e1 e10 e11 ++ (wLs g d t1 t10 t11 ++ (wSs g sh m10 m11 m12)))) s.heap.size) (wLs g d (seaN e1 (j + 1)) (u5 10) (u5 11) ++ (wLs g b e1 e10 e11 ++ (wF g a b d f1 ++ (wSs g sh m10 m11 (bkT e1 m12 120 r ((((j + 1)) : Nat) : Int)))))) := D_perm (List.Perm.append_left _ (List.Perm.append_left _ (List.perm_append_comm))) hD
        have hP : va_P g.1 vwCl (wLs g d (seaN e1 (j + 1)) (u5 10) (u5 11) ++ (wLs g b e1 e10 e11 ++ (wF g a b d f1 ++ (wSs g sh m10 m11 (bkT e1 m12 120 r ((((j + 1)) : Nat) : Int)))))) H := va_P_app.mpr ⟨hP2, va_P_app.mpr ⟨hP1, va_P_app.mpr ⟨hP0, hP3⟩⟩⟩
        exact ih13 (j + 1) (u5 10) (u5 11) (by omega) (by omega) ls hl H locs hP hD hS
  have hq9 : 0 = (0 : Int) := rfl
  have hl : lv_has ls 4 [(3, .int (iI 0)), (0, .ref (a 0)), (1, .ref (sh 6)), (2, .int (iI r))] := lv_sub hl [0, 1, 2, 3] rfl
  have hl := Eq.mp (congrArg (fun z9 => lv_has ls 4 [(3, .int (iI z9)), (0, .ref (a 0)), (1, .ref (sh 6)), (2, .int (iI r))]) hq9) hl
  have hq10 : e1 = (seaN e1 0) := rfl
  have hP := Eq.mp (congrArg (fun z9 => va_P g.1 vwCl (wLs g d z9 t10 t11 ++ (wLs g b e1 e10 e11 ++ (wF g a b d f1 ++ (wSs g sh m10 m11 m12)))) H) hq10) hP
  have hD := Eq.mp (congrArg (fun z9 => va_D (va_A (wF g a b d f1 ++ (wLs g b e1 e10 e11 ++ (wLs g d t1 t10 t11 ++ (wSs g sh m10 m11 m12)))) s.heap.size) (wLs g d z9 t10 t11 ++ (wLs g b e1 e10 e11 ++ (wF g a b d f1 ++ (wSs g sh m10 m11 m12))))) hq10) hD
  obtain ⟨hP2, hPr0⟩ := va_P_app.mp hP
  obtain ⟨hP1, hPr1⟩ := va_P_app.mp hPr0
  obtain ⟨hP0, hP3⟩ := va_P_app.mp hPr1
  have hq11 : m12 = (bkT e1 m12 120 r (((0) : Nat) : Int)) := bkT_0 e1 m12 120 r
  have hP := Eq.mp (congrArg (fun z9 => va_P g.1 vwCl (wLs g d (seaN e1 0) t10 t11 ++ (wLs g b e1 e10 e11 ++ (wF g a b d f1 ++ (wSs g sh m10 m11 z9)))) H) hq11) hP
  have hD := Eq.mp (congrArg (fun z9 => va_D (va_A (wF g a b d f1 ++ (wLs g b e1 e10 e11 ++ (wLs g d t1 t10 t11 ++ (wSs g sh m10 m11 m12)))) s.heap.size) (wLs g d (seaN e1 0) t10 t11 ++ (wLs g b e1 e10 e11 ++ (wF g a b d f1 ++ (wSs g sh m10 m11 z9))))) hq11) hD
  obtain ⟨hP2, hPr0⟩ := va_P_app.mp hP
  obtain ⟨hP1, hPr1⟩ := va_P_app.mp hPr0
  obtain ⟨hP0, hP3⟩ := va_P_app.mp hPr1
  exact lp13 (40 + 1) 0 t10 t11 (by omega) (by omega) ls hl H locs hP hD hS
set_option maxRecDepth 100000 in
set_option maxHeartbeats 4000000 in
theorem c_X0_trialGoesAs3 (l : Launch) (g : Gd) (a : Nat → Nat) (f1 : Int → Int) (b : Nat → Nat) (e1 : Int → Int) (e10 : Int → Int) (e11 : Int → Int) (d : Nat → Nat) (t1 : Int → Int) (t10 : Int → Int) (t11 : Int → Int) (sh : Nat → Nat) (m10 : Int → Int) (m11 : Int → Int) (m12 : Int → Int) (r : Int) (sz : Nat) (h1 : InvK 0 t1) (h2 : t1 0 ≤ 9999) (h3 : 0 ≤ r ∧ r < t1 1) (h4 : 0 ≤ m11 3 ∧ m11 3 ≤ 40) (h5 : ∀ j, LR (m12 j)) : Met l yX0_trialGoesAs (wsOf yX0_trialGoesAs cX0_trialGoesAs 4 (some .boolean)) rm_X0_trialGoesAs (PX g (wP g (wF g a b d f1 ++ (wLs g b e1 e10 e11 ++ (wLs g d t1 t10 t11 ++ (wSs g sh m10 m11 m12)))) sz) [.ref (a 0), .ref (sh 6), .int (iI r)]) (QMi g (fun u9 : Nat → Int → Int => wF g a b d f1 ++ (wLs g b e1 e10 e11 ++ (wLs g d (u9 201) (u9 210) (u9 211) ++ (wSs g sh m10 m11 m12)))) (fun r9 _ => r9 = iI (bI (soT t1 m12 120 r (Int.toNat (m11 3)) = true))) (va_A (wF g a b d f1 ++ (wLs g b e1 e10 e11 ++ (wLs g d t1 t10 t11 ++ (wSs g sh m10 m11 m12)))) sz)) 0 0 (va_A (wF g a b d f1 ++ (wLs g b e1 e10 e11 ++ (wLs g d t1 t10 t11 ++ (wSs g sh m10 m11 m12)))) sz) := by
  refine me (g := g) (by decide) rfl ?_
  intro pq eq s mq below meth cq C hnm hB ls hl
  obtain ⟨hx, hb, hr, hml, hown, hts, hlocks, hK⟩ := C
  have hown : s.vm.findClass RX0 = some mq.cls := hown
  have hl : lv_has ls 4 [(0, .ref (a 0)), (1, .ref (sh 6)), (2, .int (iI r))] := hl
  obtain ⟨hsz, hP, hD0⟩ := hB
  subst hsz
  have hD := hD0.self (sz := s.heap.size)
  have hA : ∀ q : Nat, s.heap.size ≤ q → va_A (wF g a b d f1 ++ (wLs g b e1 e10 e11 ++ (wLs g d t1 t10 t11 ++ (wSs g sh m10 m11 m12)))) s.heap.size q := fun q h => Or.inr h
  have hS : va_S (va_A (wF g a b d f1 ++ (wLs g b e1 e10 e11 ++ (wLs g d t1 t10 t11 ++ (wSs g sh m10 m11 m12)))) s.heap.size) s.heap s.heap [] := va_S.rf
  obtain ⟨hP0, hPr0⟩ := va_P_app.mp hP
  obtain ⟨hP1, hPr1⟩ := va_P_app.mp hPr0
  obtain ⟨hP2, hP3⟩ := va_P_app.mp hPr1
  have hI := h1
  have hn := hI.num
  refine lv_iconst (v := iI (0)) hx hb dX0_trialGoesAs_0 (by decide) ?_
  refine lv_istore_n (lv' := [(3, .int (iI 0)), (0, .ref (a 0)), (1, .ref (sh 6)), (2, .int (iI r))]) hx hb dX0_trialGoesAs_1 rfl hl (by decide) rfl (fun ls hl => ?_)
  have lp2 : ∀ (n2 : Nat) (j : Nat) (x9 : Int → Int) (y9 : Int → Int), ((j : Int) ≤ m11 3) → (soT t1 m12 120 r j = true) → 40 - j < n2 → ∀ ls : Array Slot, lv_has ls 4 [(3, .int (iI (j : Int))), (0, .ref (a 0)), (1, .ref (sh 6)), (2, .int (iI r))] → ∀ (H : Heap) (locs : List Loc), va_P g.1 vwCl (wF g a b d f1 ++ (wLs g b e1 e10 e11 ++ (wLs g d (seaN t1 j) x9 y9 ++ (wSs g sh m10 m11 m12)))) H → va_D (va_A (wF g a b d f1 ++ (wLs g b e1 e10 e11 ++ (wLs g d t1 t10 t11 ++ (wSs g sh m10 m11 m12)))) s.heap.size) (wF g a b d f1 ++ (wLs g b e1 e10 e11 ++ (wLs g d (seaN t1 j) x9 y9 ++ (wSs g sh m10 m11 m12)))) → va_S (va_A (wF g a b d f1 ++ (wLs g b e1 e10 e11 ++ (wLs g d t1 t10 t11 ++ (wSs g sh m10 m11 m12)))) s.heap.size) s.heap H locs → W pq l eq rm_X0_trialGoesAs s mq [.ref (a 0), .ref (sh 6), .int (iI r)].toArray below meth cq H locs 0 0 (MQ below (QMi g (fun u9 : Nat → Int → Int => wF g a b d f1 ++ (wLs g b e1 e10 e11 ++ (wLs g d (u9 201) (u9 210) (u9 211) ++ (wSs g sh m10 m11 m12)))) (fun r9 _ => r9 = iI (bI (soT t1 m12 120 r (Int.toNat (m11 3)) = true))) (va_A (wF g a b d f1 ++ (wLs g b e1 e10 e11 ++ (wLs g d t1 t10 t11 ++ (wSs g sh m10 m11 m12)))) s.heap.size)) [.ref (a 0), .ref (sh 6), .int (iI r)].toArray s 0 0 (va_A (wF g a b d f1 ++ (wLs g b e1 e10 e11 ++ (wLs g d t1 t10 t11 ++ (wSs g sh m10 m11 m12)))) s.heap.size)) (F0 mq 2 ls []) := by
    intro n2
    induction n2 with
    | zero => intro j x9 y9 i2_1 i2_2 hm; exact absurd hm (Nat.not_lt_zero _)
    | succ n2 ih2 =>
      intro j x9 y9 i2_1 i2_2 hm2 ls hl H locs hP hD hS
      have hsn := seaN_inv hI j (by omega)
      have hs0 := hsn.2.1
      have hs1 := hsn.2.2 1 (by omega) (by omega)
      have hcr := hsn.1.ran r (by omega) (by omega)
      obtain ⟨hP0, hPr0⟩ := va_P_app.mp hP
      obtain ⟨hP1, hPr1⟩ := va_P_app.mp hPr0
      obtain ⟨hP2, hP3⟩ := va_P_app.mp hPr1
      refine lv_iload_n hx hb dX0_trialGoesAs_2 rfl (lv_at hl 0 rfl) ?_
      refine lv_aload_n hx hb dX0_trialGoesAs_3 rfl (lv_at hl 2 rfl) ?_
      refine xgN_X2 hx hb hts hown hK hP3 6 rfl 2 (by decide) fk_X0_113 (v := .int (iI (m11 3))) rfl dX0_trialGoesAs_4 ?_
      refine xi_c_ge (tgt := 45) hx hb ⟨by omega, by omega⟩ ⟨by omega, by omega⟩ dX0_trialGoesAs_7 (by decide) (fun z1 => ?_) (fun z1 => ?_)
      · refine lv_iconst (v := iI (1)) hx hb dX0_trialGoesAs_45 (by decide) ?_
        have hP : va_P g.1 vwCl (wF g a b d f1 ++ (wLs g b e1 e10 e11 ++ (wLs g d ((su (su (su (fun _ _ => 0) 201 (seaN t1 j)) 210 x9) 211 y9) 201) ((su (su (su (fun _ _ => 0) 201 (seaN t1 j)) 210 x9) 211 y9) 210) ((su (su (su (fun _ _ => 0) 201 (seaN t1 j)) 210 x9) 211 y9) 211) ++ (wSs g sh m10 m11 m12)))) H := hP
        have hD : va_D (va_A (wF g a b d f1 ++ (wLs g b e1 e10 e11 ++ (wLs g d t1 t10 t11 ++ (wSs g sh m10 m11 m12)))) s.heap.size) (wF g a b d f1 ++ (wLs g b e1 e10 e11 ++ (wLs g d ((su (su (su (fun _ _ => 0) 201 (seaN t1 j)) 210 x9) 211 y9) 201) ((su (su (su (fun _ _ => 0) 201 (seaN t1 j)) 210 x9) 211 y9) 210) ((su (su (su (fun _ _ => 0) 201 (seaN t1 j)) 210 x9) 211 y9) 211) ++ (wSs g sh m10 m11 m12)))) := hD
        exact W.zret hx hb hr (by decide) (fun t ht hW => ⟨⟨_, (su (su (su (fun _ _ => 0) 201 (seaN t1 j)) 210 x9) 211 y9), rfl, by rw [bI_t (by rw [show (m11 3).toNat = j by omega]; exact i2_2)], by rw [ht]; exact hP, hD⟩, hS.F ht⟩) hS.2.2 dX0_trialGoesAs_46
      · refine lv_aload_n hx hb dX0_trialGoesAs_10 rfl (lv_at hl 2 rfl) ?_
        refine xgN_X2 hx hb hts hown hK hP3 6 rfl 0 (by decide) fk_X0_126 (v := .ref (sh 7)) rfl dX0_trialGoesAs_11 ?_
        refine lv_iload_n hx hb dX0_trialGoesAs_14 rfl (lv_at hl 0 rfl) ?_
        refine xl_alq hx hb hK hP3 7 (s0 := m12) rfl (i := (j : Int)) ⟨by omega, by omega⟩ rfl dX0_trialGoesAs_15 ?_
        refine lv_aload_n hx hb dX0_trialGoesAs_16 rfl (lv_at hl 1 rfl) ?_
        refine xg_X0 hx hb hts hown hK hP0 0 rfl 1 (by decide) fk_X0_12 (v := .ref (d 0)) rfl dX0_trialGoesAs_17 ?_
        refine xgN_X1 hx hb hts hown hK hP2 0 rfl 8 (by decide) fk_X0_33 (v := .ref (d 6)) rfl dX0_trialGoesAs_20 ?_
        refine lv_iload_n hx hb dX0_trialGoesAs_23 rfl (lv_at hl 3 rfl) ?_
        refine xi_alz hx hb hK hP2 6 (s0 := seaN t1 j) rfl (i := r) ⟨by omega, by omega⟩ rfl dX0_trialGoesAs_24 ?_
        refine xi_i2l hx hb ⟨by omega, by omega⟩ dX0_trialGoesAs_25 ?_
        refine xl_c_eq (tgt := 32) hx hb (h5 _) ⟨by omega, by omega⟩ dX0_trialGoesAs_26 dX0_trialGoesAs_27 (by decide) (fun z2 => ?_) (fun z2 => ?_)
        · refine lv_aload_n hx hb dX0_trialGoesAs_32 rfl (lv_at hl 1 rfl) ?_
          refine xg_X0 hx hb hts hown hK hP0 0 rfl 1 (by decide) fk_X0_12 (v := .ref (d 0)) rfl dX0_trialGoesAs_33 ?_
          have hD : va_D (va_A (wF g a b d f1 ++ (wLs g b e1 e10 e11 ++ (wLs g d t1 t10 t11 ++ (wSs g sh m10 m11 m12)))) s.heap.size) (wF g a b d f1 ++ (wLs g d (seaN t1 j) x9 y9 ++ (wLs g b e1 e10 e11 ++ (wSs g sh m10 m11 m12)))) := D_perm (List.Perm.append_left _ (List.perm_append_comm_assoc _ _ _)) hD
          have hD : va_D (va_A (wF g a b d f1 ++ (wLs g b e1 e10 e11 ++ (wLs g d t1 t10 t11 ++ (wSs g sh m10 m11 m12)))) s.heap.size) (wLs g d (seaN t1 j) x9 y9 ++ (wF g a b d f1 ++ (wLs g b e1 e10 e11 ++ (wSs g sh m10 m11 m12)))) := D_perm (List.perm_append_comm_assoc _ _ _) hD
          have hP : va_P g.1 vwCl (wLs g d (seaN t1 j) x9 y9 ++ (wF g a b d f1 ++ (wLs g b e1 e10 e11 ++ (wSs g sh m10 m11 m12)))) H := va_P_app.mpr ⟨hP2, va_P_app.mpr ⟨hP0, va_P_app.mpr ⟨hP1, hP3⟩⟩⟩
          refine xmF_v (rVN (rest := []) hx hb hml hown hts hK hl (c_X1_goSeason l g d (seaN t1 j) x9 y9 H.size (show InvK 0 (seaN t1 j) from hsn.1) (show (seaN t1 j) 0 < 20000 from by omega)) lk_X0_36 ⟨rfl, hP2, (va_D_app hD).1.weaken (fun _ _ _ _ => trivial)⟩ (va_recv hK.1 hP2 (ci := 1) (q0 := 0) rfl rfl) rfl rfl rfl (Rm.of rfl) rfl rfl dX0_trialGoesAs_36) hP hD hS hA (fun u3 H locs hw hP hD hS => ?_)
          have hP : va_P g.1 vwCl (wLs g d (sea (seaN t1 j)) (u3 10) (u3 11) ++ (wF g a b d f1 ++ (wLs g b e1 e10 e11 ++ (wSs g sh m10 m11 m12)))) H := hP
          have hD : va_D (va_A (wF g a b d f1 ++ (wLs g b e1 e10 e11 ++ (wLs g d t1 t10 t11 ++ (wSs g sh m10 m11 m12)))) s.heap.size) (wLs g d (sea (seaN t1 j)) (u3 10) (u3 11) ++ (wF g a b d f1 ++ (wLs g b e1 e10 e11 ++ (wSs g sh m10 m11 m12)))) := hD
          obtain ⟨hP2, hPr0⟩ := va_P_app.mp hP
          obtain ⟨hP0, hPr1⟩ := va_P_app.mp hPr0
          obtain ⟨hP1, hP3⟩ := va_P_app.mp hPr1
          refine xi_inc (lv' := [(3, .int (iI ((j : Int) + 1))), (0, .ref (a 0)), (1, .ref (sh 6)), (2, .int (iI r))]) hx hb dX0_trialGoesAs_39 hl (k := 0) rfl (by decide) rfl (fun ls hl => ?_)
          refine lv_goto (tgt := 2) hx hb dX0_trialGoesAs_42 (by decide) ?_
          have hq4 : ((j : Int) + 1) = ((j + 1) : Int) := by omega
          have hl : lv_has ls 4 [(3, .int (iI ((j : Int) + 1))), (0, .ref (a 0)), (1, .ref (sh 6)), (2, .int (iI r))] := lv_sub hl [0, 1, 2, 3] rfl
          have hl := Eq.mp (congrArg (fun z9 => lv_has ls 4 [(3, .int (iI z9)), (0, .ref (a 0)), (1, .ref (sh 6)), (2, .int (iI r))]) hq4) hl
          have hq5 : (sea (seaN t1 j)) = (seaN t1 (j + 1)) := rfl
          have hP := Eq.mp (congrArg (fun z9 => va_P g.1 vwCl (wLs g d z9 (u3 10) (u3 11) ++ (wF g a b d f1 ++ (wLs g b e1 e10 e11 ++ (wSs g sh m10 m11 m12)))) H) hq5) hP
          have hD := Eq.mp (congrArg (fun z9 => va_D (va_A (wF g a b d f1 ++ (wLs g b e1 e10 e11 ++ (wLs g d t1 t10 t11 ++ (wSs g sh m10 m11 m12)))) s.heap.size) (wLs g d z9 (u3 10) (u3 11) ++ (wF g a b d f1 ++ (wLs g b e1 e10 e11 ++ (wSs g sh m10 m11 m12))))) hq5) hD
          obtain ⟨hP2, hPr0⟩ := va_P_app.mp hP
          obtain ⟨hP0, hPr1⟩ := va_P_app.mp hPr0
          obtain ⟨hP1, hP3⟩ := va_P_app.mp hPr1
          have hD : va_D (va_A (wF g a b d f1 ++ (wLs g b e1 e10 e11 ++ (wLs g d t1 t10 t11 ++ (wSs g sh m10 m11 m12)))) s.heap.size) (wF g a b d f1 ++ (wLs g d (seaN t1 (j + 1)) (u3 10) (u3 11) ++ (wLs g b e1 e10 e11 ++ (wSs g sh m10 m11 m12)))) := D_perm (List.perm_append_comm_assoc _ _ _) hD
          have hD : va_D (va_A (wF g a b d f1 ++ (wLs g b e1 e10 e11 ++ (wLs g d t1 t10 t11 ++ (wSs g sh m10 m11 m12)))) s.heap.size) (wF g a b d f1 ++ (wLs g b e1 e10 e11 ++ (wLs g d (seaN t1 (j + 1)) (u3 10) (u3 11) ++ (wSs g sh m10 m11 m12)))) := D_perm (List.Perm.append_left _ (List.perm_append_comm_assoc _ _ _)) hD
          have hP : va_P g.1 vwCl (wF g a b d f1 ++ (wLs g b e1 e10 e11 ++ (wLs g d (seaN t1 (j + 1)) (u3 10) (u3 11) ++ (wSs g sh m10 m11 m12)))) H := va_P_app.mpr ⟨hP0, va_P_app.mpr ⟨hP1, va_P_app.mpr ⟨hP2, hP3⟩⟩⟩
          exact ih2 (j + 1) (u3 10) (u3 11) (by omega) (by simp only [soT, Bool.and_eq_true, decide_eq_true_eq]; exact ⟨i2_2, by omega⟩) (by omega) ls hl H locs hP hD hS
        · refine lv_iconst (v := iI (0)) hx hb dX0_trialGoesAs_30 (by decide) ?_
          have hP : va_P g.1 vwCl (wF g a b d f1 ++ (wLs g b e1 e10 e11 ++ (wLs g d ((su (su (su (fun _ _ => 0) 201 (seaN t1 j)) 210 x9) 211 y9) 201) ((su (su (su (fun _ _ => 0) 201 (seaN t1 j)) 210 x9) 211 y9) 210) ((su (su (su (fun _ _ => 0) 201 (seaN t1 j)) 210 x9) 211 y9) 211) ++ (wSs g sh m10 m11 m12)))) H := hP
          have hD : va_D (va_A (wF g a b d f1 ++ (wLs g b e1 e10 e11 ++ (wLs g d t1 t10 t11 ++ (wSs g sh m10 m11 m12)))) s.heap.size) (wF g a b d f1 ++ (wLs g b e1 e10 e11 ++ (wLs g d ((su (su (su (fun _ _ => 0) 201 (seaN t1 j)) 210 x9) 211 y9) 201) ((su (su (su (fun _ _ => 0) 201 (seaN t1 j)) 210 x9) 211 y9) 210) ((su (su (su (fun _ _ => 0) 201 (seaN t1 j)) 210 x9) 211 y9) 211) ++ (wSs g sh m10 m11 m12)))) := hD
          exact W.zret hx hb hr (by decide) (fun t ht hW => ⟨⟨_, (su (su (su (fun _ _ => 0) 201 (seaN t1 j)) 210 x9) 211 y9), rfl, by rw [bI_f (fun z => by have := soT_le z (show j + 1 ≤ _ by omega); simp only [soT, Bool.and_eq_true, decide_eq_true_eq] at this; omega)], by rw [ht]; exact hP, hD⟩, hS.F ht⟩) hS.2.2 dX0_trialGoesAs_31
  have hq6 : 0 = (0 : Int) := rfl
  have hl : lv_has ls 4 [(3, .int (iI 0)), (0, .ref (a 0)), (1, .ref (sh 6)), (2, .int (iI r))] := lv_sub hl [0, 1, 2, 3] rfl
  have hl := Eq.mp (congrArg (fun z9 => lv_has ls 4 [(3, .int (iI z9)), (0, .ref (a 0)), (1, .ref (sh 6)), (2, .int (iI r))]) hq6) hl
  have hq7 : t1 = (seaN t1 0) := rfl
  have hP := Eq.mp (congrArg (fun z9 => va_P g.1 vwCl (wF g a b d f1 ++ (wLs g b e1 e10 e11 ++ (wLs g d z9 t10 t11 ++ (wSs g sh m10 m11 m12)))) s.heap) hq7) hP
  have hD := Eq.mp (congrArg (fun z9 => va_D (va_A (wF g a b d f1 ++ (wLs g b e1 e10 e11 ++ (wLs g d t1 t10 t11 ++ (wSs g sh m10 m11 m12)))) s.heap.size) (wF g a b d f1 ++ (wLs g b e1 e10 e11 ++ (wLs g d z9 t10 t11 ++ (wSs g sh m10 m11 m12))))) hq7) hD
  obtain ⟨hP0, hPr0⟩ := va_P_app.mp hP
  obtain ⟨hP1, hPr1⟩ := va_P_app.mp hPr0
  obtain ⟨hP2, hP3⟩ := va_P_app.mp hPr1
  exact lp2 (40 + 1) 0 t10 t11 (by omega) rfl (by omega) ls hl s.heap [] hP hD hS
set_option maxRecDepth 100000 in
set_option maxHeartbeats 4000000 in
theorem c_X0_matchingPairs3 (l : Launch) (g : Gd) (a : Nat → Nat) (f1 : Int → Int) (b : Nat → Nat) (e1 : Int → Int) (e10 : Int → Int) (e11 : Int → Int) (d : Nat → Nat) (t1 : Int → Int) (t10 : Int → Int) (t11 : Int → Int) (sh : Nat → Nat) (m10 : Int → Int) (m11 : Int → Int) (m12 : Int → Int) (r : Int) (sz : Nat) (h1 : InvK 0 e1) (h2 : e1 0 ≤ 9999) (h3 : 0 ≤ r ∧ r < e1 1) (h4 : 0 ≤ m11 3 ∧ m11 3 ≤ 40) (h5 : ∀ j, LR (m12 j)) : Met l yX0_matchingPairs (wsOf yX0_matchingPairs cX0_matchingPairs 6 (some .int)) rm_X0_matchingPairs (PX g (wP g (wF g a b d f1 ++ (wLs g b e1 e10 e11 ++ (wLs g d t1 t10 t11 ++ (wSs g sh m10 m11 m12)))) sz) [.ref (a 0), .ref (sh 6), .int (iI r)]) (QMi g (fun u9 : Nat → Int → Int => wF g a b d f1 ++ (wLs g b e1 e10 e11 ++ (wLs g d (u9 201) (u9 210) (u9 211) ++ (wSs g sh m10 m11 m12)))) (fun r9 _ => r9 = iI (rdO (rdV e1 m12 120 r (m11 3)) 10)) (va_A (wF g a b d f1 ++ (wLs g b e1 e10 e11 ++ (wLs g d t1 t10 t11 ++ (wSs g sh m10 m11 m12)))) sz)) 0 0 (va_A (wF g a b d f1 ++ (wLs g b e1 e10 e11 ++ (wLs g d t1 t10 t11 ++ (wSs g sh m10 m11 m12)))) sz) := by
  refine me (g := g) (by decide) rfl ?_
  intro pq eq s mq below meth cq C hnm hB ls hl
  obtain ⟨hx, hb, hr, hml, hown, hts, hlocks, hK⟩ := C
  have hown : s.vm.findClass RX0 = some mq.cls := hown
  have hl : lv_has ls 6 [(0, .ref (a 0)), (1, .ref (sh 6)), (2, .int (iI r))] := hl
  obtain ⟨hsz, hP, hD0⟩ := hB
  subst hsz
  have hD := hD0.self (sz := s.heap.size)
  have hA : ∀ q : Nat, s.heap.size ≤ q → va_A (wF g a b d f1 ++ (wLs g b e1 e10 e11 ++ (wLs g d t1 t10 t11 ++ (wSs g sh m10 m11 m12)))) s.heap.size q := fun q h => Or.inr h
  have hS : va_S (va_A (wF g a b d f1 ++ (wLs g b e1 e10 e11 ++ (wLs g d t1 t10 t11 ++ (wSs g sh m10 m11 m12)))) s.heap.size) s.heap s.heap [] := va_S.rf
  obtain ⟨hP0, hPr0⟩ := va_P_app.mp hP
  obtain ⟨hP1, hPr1⟩ := va_P_app.mp hPr0
  obtain ⟨hP2, hP3⟩ := va_P_app.mp hPr1
  have hI := h1
  have hI8 : Inv e1 := h1.mono (by omega)
  have hn := hI.num
  have hs := hI.sea
  have hv := hI.vil
  refine lv_iconst (v := iI (0)) hx hb dX0_matchingPairs_0 (by decide) ?_
  refine lv_istore_n (lv' := [(3, .int (iI 0)), (0, .ref (a 0)), (1, .ref (sh 6)), (2, .int (iI r))]) hx hb dX0_matchingPairs_1 rfl hl (by decide) rfl (fun ls hl => ?_)
  refine lv_iconst (v := iI (0)) hx hb dX0_matchingPairs_2 (by decide) ?_
  refine lv_istore (lv' := [(4, .int (iI 0)), (3, .int (iI 0)), (0, .ref (a 0)), (1, .ref (sh 6)), (2, .int (iI r))]) hx hb dX0_matchingPairs_3 hl (by decide) rfl (fun ls hl => ?_)
  have lp5 : ∀ (n5 : Nat) (h : Nat) (v9 : Int → Int) (x9 : Int → Int) (y9 : Int → Int), (h ≤ 10) → 10 - h < n5 → ∀ ls : Array Slot, lv_has ls 6 [(4, .int (iI (h : Int))), (3, .int (iI (rdO (rdV e1 m12 120 r (m11 3)) h))), (0, .ref (a 0)), (1, .ref (sh 6)), (2, .int (iI r))] → ∀ (H : Heap) (locs : List Loc), va_P g.1 vwCl (wF g a b d f1 ++ (wLs g b e1 e10 e11 ++ (wLs g d v9 x9 y9 ++ (wSs g sh m10 m11 m12)))) H → va_D (va_A (wF g a b d f1 ++ (wLs g b e1 e10 e11 ++ (wLs g d t1 t10 t11 ++ (wSs g sh m10 m11 m12)))) s.heap.size) (wF g a b d f1 ++ (wLs g b e1 e10 e11 ++ (wLs g d v9 x9 y9 ++ (wSs g sh m10 m11 m12)))) → va_S (va_A (wF g a b d f1 ++ (wLs g b e1 e10 e11 ++ (wLs g d t1 t10 t11 ++ (wSs g sh m10 m11 m12)))) s.heap.size) s.heap H locs → W pq l eq rm_X0_matchingPairs s mq [.ref (a 0), .ref (sh 6), .int (iI r)].toArray below meth cq H locs 0 0 (MQ below (QMi g (fun u9 : Nat → Int → Int => wF g a b d f1 ++ (wLs g b e1 e10 e11 ++ (wLs g d (u9 201) (u9 210) (u9 211) ++ (wSs g sh m10 m11 m12)))) (fun r9 _ => r9 = iI (rdO (rdV e1 m12 120 r (m11 3)) 10)) (va_A (wF g a b d f1 ++ (wLs g b e1 e10 e11 ++ (wLs g d t1 t10 t11 ++ (wSs g sh m10 m11 m12)))) s.heap.size)) [.ref (a 0), .ref (sh 6), .int (iI r)].toArray s 0 0 (va_A (wF g a b d f1 ++ (wLs g b e1 e10 e11 ++ (wLs g d t1 t10 t11 ++ (wSs g sh m10 m11 m12)))) s.heap.size)) (F0 mq 5 ls []) := by
    intro n5
    induction n5 with
    | zero => intro h v9 x9 y9 i5_1 hm; exact absurd hm (Nat.not_lt_zero _)
    | succ n5 ih5 =>
      intro h v9 x9 y9 i5_1 hm5 ls hl H locs hP hD hS
      obtain ⟨hP0, hPr0⟩ := va_P_app.mp hP
      obtain ⟨hP1, hPr1⟩ := va_P_app.mp hPr0
      obtain ⟨hP2, hP3⟩ := va_P_app.mp hPr1
      refine lv_iload hx hb dX0_matchingPairs_5 (lv_at hl 0 rfl) ?_
      refine lv_bipush (v := iI (9)) hx hb dX0_matchingPairs_7 (by decide) ?_
      refine xi_c_gt (tgt := 80) hx hb ⟨by omega, by omega⟩ ⟨by decide, by decide⟩ dX0_matchingPairs_9 (by decide) (fun z1 => ?_) (fun z1 => ?_)
      · refine lv_iload_n hx hb dX0_matchingPairs_80 rfl (lv_at hl 1 rfl) ?_
        have hP : va_P g.1 vwCl (wF g a b d f1 ++ (wLs g b e1 e10 e11 ++ (wLs g d ((su (su (su (fun _ _ => 0) 201 v9) 210 x9) 211 y9) 201) ((su (su (su (fun _ _ => 0) 201 v9) 210 x9) 211 y9) 210) ((su (su (su (fun _ _ => 0) 201 v9) 210 x9) 211 y9) 211) ++ (wSs g sh m10 m11 m12)))) H := hP
        have hD : va_D (va_A (wF g a b d f1 ++ (wLs g b e1 e10 e11 ++ (wLs g d t1 t10 t11 ++ (wSs g sh m10 m11 m12)))) s.heap.size) (wF g a b d f1 ++ (wLs g b e1 e10 e11 ++ (wLs g d ((su (su (su (fun _ _ => 0) 201 v9) 210 x9) 211 y9) 201) ((su (su (su (fun _ _ => 0) 201 v9) 210 x9) 211 y9) 210) ((su (su (su (fun _ _ => 0) 201 v9) 210 x9) 211 y9) 211) ++ (wSs g sh m10 m11 m12)))) := hD
        exact W.iret hx hb hr (fun t ht hW => ⟨⟨_, (su (su (su (fun _ _ => 0) 201 v9) 210 x9) 211 y9), rfl, congrArg iI (by rw [show h = 10 by omega]), by rw [ht]; exact hP, hD⟩, hS.F ht⟩) hS.2.2 dX0_matchingPairs_81
      · refine lv_bipush (v := iI (-9)) hx hb dX0_matchingPairs_12 (by decide) ?_
        refine lv_istore (lv' := [(5, .int (iI (-9))), (4, .int (iI (h : Int))), (3, .int (iI (rdO (rdV e1 m12 120 r (m11 3)) h))), (0, .ref (a 0)), (1, .ref (sh 6)), (2, .int (iI r))]) hx hb dX0_matchingPairs_14 hl (by decide) rfl (fun ls hl => ?_)
        have lp16 : ∀ (n16 : Nat) (w : Nat) (v8 : Int → Int) (x8 : Int → Int) (y8 : Int → Int), (w ≤ 19) → 19 - w < n16 → ∀ ls : Array Slot, lv_has ls 6 [(5, .int (iI ((w : Int) - 9))), (4, .int (iI (h : Int))), (3, .int (iI (rdI (rdV e1 m12 120 r (m11 3)) h (rdO (rdV e1 m12 120 r (m11 3)) h) w))), (0, .ref (a 0)), (1, .ref (sh 6)), (2, .int (iI r))] → ∀ (H : Heap) (locs : List Loc), va_P g.1 vwCl (wF g a b d f1 ++ (wLs g b e1 e10 e11 ++ (wLs g d v8 x8 y8 ++ (wSs g sh m10 m11 m12)))) H → va_D (va_A (wF g a b d f1 ++ (wLs g b e1 e10 e11 ++ (wLs g d t1 t10 t11 ++ (wSs g sh m10 m11 m12)))) s.heap.size) (wF g a b d f1 ++ (wLs g b e1 e10 e11 ++ (wLs g d v8 x8 y8 ++ (wSs g sh m10 m11 m12)))) → va_S (va_A (wF g a b d f1 ++ (wLs g b e1 e10 e11 ++ (wLs g d t1 t10 t11 ++ (wSs g sh m10 m11 m12)))) s.heap.size) s.heap H locs → W pq l eq rm_X0_matchingPairs s mq [.ref (a 0), .ref (sh 6), .int (iI r)].toArray below meth cq H locs 0 0 (MQ below (QMi g (fun u9 : Nat → Int → Int => wF g a b d f1 ++ (wLs g b e1 e10 e11 ++ (wLs g d (u9 201) (u9 210) (u9 211) ++ (wSs g sh m10 m11 m12)))) (fun r9 _ => r9 = iI (rdO (rdV e1 m12 120 r (m11 3)) 10)) (va_A (wF g a b d f1 ++ (wLs g b e1 e10 e11 ++ (wLs g d t1 t10 t11 ++ (wSs g sh m10 m11 m12)))) s.heap.size)) [.ref (a 0), .ref (sh 6), .int (iI r)].toArray s 0 0 (va_A (wF g a b d f1 ++ (wLs g b e1 e10 e11 ++ (wLs g d t1 t10 t11 ++ (wSs g sh m10 m11 m12)))) s.heap.size)) (F0 mq 16 ls []) := by
          intro n16
          induction n16 with
          | zero => intro w v8 x8 y8 i16_1 hm; exact absurd hm (Nat.not_lt_zero _)
          | succ n16 ih16 =>
            intro w v8 x8 y8 i16_1 hm16 ls hl H locs hP hD hS
            obtain ⟨hP0, hPr0⟩ := va_P_app.mp hP
            obtain ⟨hP1, hPr1⟩ := va_P_app.mp hPr0
            obtain ⟨hP2, hP3⟩ := va_P_app.mp hPr1
            refine lv_iload hx hb dX0_matchingPairs_16 (lv_at hl 0 rfl) ?_
            refine lv_bipush (v := iI (9)) hx hb dX0_matchingPairs_18 (by decide) ?_
            refine xi_c_gt (tgt := 74) hx hb ⟨by omega, by omega⟩ ⟨by decide, by decide⟩ dX0_matchingPairs_20 (by decide) (fun z2 => ?_) (fun z2 => ?_)
            · refine xi_inc (lv' := [(4, .int (iI ((h : Int) + 1))), (5, .int (iI ((w : Int) - 9))), (3, .int (iI (rdI (rdV e1 m12 120 r (m11 3)) h (rdO (rdV e1 m12 120 r (m11 3)) h) w))), (0, .ref (a 0)), (1, .ref (sh 6)), (2, .int (iI r))]) hx hb dX0_matchingPairs_74 hl (k := 1) rfl (by decide) rfl (fun ls hl => ?_)
              refine lv_goto (tgt := 5) hx hb dX0_matchingPairs_77 (by decide) ?_
              have hq3 : ((h : Int) + 1) = ((h + 1) : Int) := by omega
              have hq4 : (rdI (rdV e1 m12 120 r (m11 3)) h (rdO (rdV e1 m12 120 r (m11 3)) h) w) = (rdO (rdV e1 m12 120 r (m11 3)) (h + 1)) := by show _ = rdI (rdV e1 m12 120 r (m11 3)) h (rdO (rdV e1 m12 120 r (m11 3)) h) 19; rw [show w = 19 by omega]
              have hl : lv_has ls 6 [(4, .int (iI ((h : Int) + 1))), (3, .int (iI (rdI (rdV e1 m12 120 r (m11 3)) h (rdO (rdV e1 m12 120 r (m11 3)) h) w))), (0, .ref (a 0)), (1, .ref (sh 6)), (2, .int (iI r))] := lv_sub hl [0, 2, 3, 4, 5] rfl
              have hl := Eq.mp (congrArg (fun z9 => lv_has ls 6 [(4, .int (iI z9)), (3, .int (iI (rdI (rdV e1 m12 120 r (m11 3)) h (rdO (rdV e1 m12 120 r (m11 3)) h) w))), (0, .ref (a 0)), (1, .ref (sh 6)), (2, .int (iI r))]) hq3) hl
              have hl := Eq.mp (congrArg (fun z9 => lv_has ls 6 [(4, .int (iI ((h + 1) : Int))), (3, .int (iI z9)), (0, .ref (a 0)), (1, .ref (sh 6)), (2, .int (iI r))]) hq4) hl
              exact ih5 (h + 1) v8 x8 y8 (by omega) (by omega) ls hl H locs hP hD hS
            · have hIu : InvK 0 (up (up e1 (61 + 5 * r + 2) (h : Int)) (3 + 0) ((w : Int) - 9)) := (hI.oth (k2 := 0) (r := r) (w := 2) (v := (h : Int)) (by omega) (by omega) (by omega) (by omega) (by omega) ⟨by omega, by omega, by omega, by omega⟩).wgt (w := 0) (v := (w : Int) - 9) (by omega) (by omega) (by omega)
              refine lv_aload_n hx hb dX0_matchingPairs_23 rfl (lv_at hl 3 rfl) ?_
              refine xg_X0 hx hb hts hown hK hP0 0 rfl 1 (by decide) fk_X0_12 (v := .ref (d 0)) rfl dX0_matchingPairs_24 ?_
              refine lv_aload_n hx hb dX0_matchingPairs_27 rfl (lv_at hl 3 rfl) ?_
              refine xg_X0 hx hb hts hown hK hP0 0 rfl 0 (by decide) fk_X0_22 (v := .ref (b 0)) rfl dX0_matchingPairs_28 ?_
              have hD : va_D (va_A (wF g a b d f1 ++ (wLs g b e1 e10 e11 ++ (wLs g d t1 t10 t11 ++ (wSs g sh m10 m11 m12)))) s.heap.size) (wF g a b d f1 ++ (wLs g d v8 x8 y8 ++ (wLs g b e1 e10 e11 ++ (wSs g sh m10 m11 m12)))) := D_perm (List.Perm.append_left _ (List.perm_append_comm_assoc _ _ _)) hD
              have hD : va_D (va_A (wF g a b d f1 ++ (wLs g b e1 e10 e11 ++ (wLs g d t1 t10 t11 ++ (wSs g sh m10 m11 m12)))) s.heap.size) (wLs g d v8 x8 y8 ++ (wF g a b d f1 ++ (wLs g b e1 e10 e11 ++ (wSs g sh m10 m11 m12)))) := D_perm (List.perm_append_comm_assoc _ _ _) hD
              have hD : va_D (va_A (wF g a b d f1 ++ (wLs g b e1 e10 e11 ++ (wLs g d t1 t10 t11 ++ (wSs g sh m10 m11 m12)))) s.heap.size) (wLs g d v8 x8 y8 ++ (wLs g b e1 e10 e11 ++ (wF g a b d f1 ++ (wSs g sh m10 m11 m12)))) := D_perm (List.Perm.append_left _ (List.perm_append_comm_assoc _ _ _)) hD
              have hP : va_P g.1 vwCl (wLs g d v8 x8 y8 ++ (wLs g b e1 e10 e11 ++ (wF g a b d f1 ++ (wSs g sh m10 m11 m12)))) H := va_P_app.mpr ⟨hP2, va_P_app.mpr ⟨hP1, va_P_app.mpr ⟨hP0, hP3⟩⟩⟩
              have hP : va_P g.1 vwCl ((wLs g d v8 x8 y8 ++ (wLs g b e1 e10 e11)) ++ (wF g a b d f1 ++ (wSs g sh m10 m11 m12))) H := by rw [List.append_assoc]; exact hP
              have hD : va_D (va_A (wF g a b d f1 ++ (wLs g b e1 e10 e11 ++ (wLs g d t1 t10 t11 ++ (wSs g sh m10 m11 m12)))) s.heap.size) ((wLs g d v8 x8 y8 ++ (wLs g b e1 e10 e11)) ++ (wF g a b d f1 ++ (wSs g sh m10 m11 m12))) := by rw [List.append_assoc]; exact hD
              refine xmF_v (rVN (rest := []) hx hb hml hown hts hK hl (c_X1_becomes l g d v8 x8 y8 b e1 e10 e11 H.size ) lk_X0_25 ⟨rfl, (va_P_app.mp hP).1, (va_D_app hD).1.weaken (fun _ _ _ _ => trivial)⟩ (va_recv hK.1 hP2 (ci := 1) (q0 := 0) rfl rfl) rfl rfl rfl (Rm.of rfl) rfl rfl dX0_matchingPairs_31) hP hD hS hA (fun _ H locs hw hP hD hS => ?_)
              have hP : va_P g.1 vwCl ((wLs g d e1 x8 y8 ++ (wLs g b e1 e10 e11)) ++ (wF g a b d f1 ++ (wSs g sh m10 m11 m12))) H := hP
              have hD : va_D (va_A (wF g a b d f1 ++ (wLs g b e1 e10 e11 ++ (wLs g d t1 t10 t11 ++ (wSs g sh m10 m11 m12)))) s.heap.size) ((wLs g d e1 x8 y8 ++ (wLs g b e1 e10 e11)) ++ (wF g a b d f1 ++ (wSs g sh m10 m11 m12))) := hD
              rw [List.append_assoc] at hP hD
              have hP : va_P g.1 vwCl (wLs g d e1 x8 y8 ++ (wLs g b e1 e10 e11 ++ (wF g a b d f1 ++ (wSs g sh m10 m11 m12)))) H := hP
              have hD : va_D (va_A (wF g a b d f1 ++ (wLs g b e1 e10 e11 ++ (wLs g d t1 t10 t11 ++ (wSs g sh m10 m11 m12)))) s.heap.size) (wLs g d e1 x8 y8 ++ (wLs g b e1 e10 e11 ++ (wF g a b d f1 ++ (wSs g sh m10 m11 m12)))) := hD
              obtain ⟨hP2, hPr0⟩ := va_P_app.mp hP
              obtain ⟨hP1, hPr1⟩ := va_P_app.mp hPr0
              obtain ⟨hP0, hP3⟩ := va_P_app.mp hPr1
              refine lv_aload_n hx hb dX0_matchingPairs_34 rfl (lv_at hl 3 rfl) ?_
              refine xg_X0 hx hb hts hown hK hP0 0 rfl 1 (by decide) fk_X0_12 (v := .ref (d 0)) rfl dX0_matchingPairs_35 ?_
              refine xgN_X1 hx hb hts hown hK hP2 0 rfl 9 (by decide) fk_X0_66 (v := .ref (d 7)) rfl dX0_matchingPairs_38 ?_
              refine lv_iload_n hx hb dX0_matchingPairs_41 rfl (lv_at hl 5 rfl) ?_
              refine lv_iload hx hb dX0_matchingPairs_42 (lv_at hl 1 rfl) ?_
              refine xi_ast hx hb hK hP hD hS 7 (f := pz 2 e1) rfl (i := r) (v := (h : Int)) ⟨by omega, by omega⟩ rfl dX0_matchingPairs_44 (fun H locs hP hD hS => ?_)
              have hP := Eq.mp (congrArg (fun z9 : va_W => va_P g.1 vwCl (z9 ++ (wLs g b e1 e10 e11 ++ (wF g a b d f1 ++ (wSs g sh m10 m11 m12)))) H) (Ls_hastes (g := g) (a := d) (s := e1) (x10 := x8) (x11 := y8) (i := r) (v := (h : Int)) ⟨by omega, by omega⟩)) hP
              have hD := Eq.mp (congrArg (fun z9 : va_W => va_D (va_A (wF g a b d f1 ++ (wLs g b e1 e10 e11 ++ (wLs g d t1 t10 t11 ++ (wSs g sh m10 m11 m12)))) s.heap.size) (z9 ++ (wLs g b e1 e10 e11 ++ (wF g a b d f1 ++ (wSs g sh m10 m11 m12))))) (Ls_hastes (g := g) (a := d) (s := e1) (x10 := x8) (x11 := y8) (i := r) (v := (h : Int)) ⟨by omega, by omega⟩)) hD
              have hP : va_P g.1 vwCl (wLs g d (up e1 (61 + 5 * r + 2) (h : Int)) x8 y8 ++ (wLs g b e1 e10 e11 ++ (wF g a b d f1 ++ (wSs g sh m10 m11 m12)))) H := hP
              have hD : va_D (va_A (wF g a b d f1 ++ (wLs g b e1 e10 e11 ++ (wLs g d t1 t10 t11 ++ (wSs g sh m10 m11 m12)))) s.heap.size) (wLs g d (up e1 (61 + 5 * r + 2) (h : Int)) x8 y8 ++ (wLs g b e1 e10 e11 ++ (wF g a b d f1 ++ (wSs g sh m10 m11 m12)))) := hD
              obtain ⟨hP2, hPr0⟩ := va_P_app.mp hP
              obtain ⟨hP1, hPr1⟩ := va_P_app.mp hPr0
              obtain ⟨hP0, hP3⟩ := va_P_app.mp hPr1
              refine lv_aload_n hx hb dX0_matchingPairs_45 rfl (lv_at hl 3 rfl) ?_
              refine xg_X0 hx hb hts hown hK hP0 0 rfl 1 (by decide) fk_X0_12 (v := .ref (d 0)) rfl dX0_matchingPairs_46 ?_
              refine xgN_X1 hx hb hts hown hK hP2 0 rfl 6 (by decide) fk_X0_73 (v := .ref (d 4)) rfl dX0_matchingPairs_49 ?_
              refine lv_iconst (v := iI (0)) hx hb dX0_matchingPairs_52 (by decide) ?_
              refine lv_iload hx hb dX0_matchingPairs_53 (lv_at hl 0 rfl) ?_
              refine xi_ast hx hb hK hP hD hS 4 (f := pj 3 4 (up e1 (61 + 5 * r + 2) (h : Int))) rfl (i := 0) (v := (w : Int) - 9) ⟨by omega, by omega⟩ rfl dX0_matchingPairs_55 (fun H locs hP hD hS => ?_)
              have hP := Eq.mp (congrArg (fun z9 : va_W => va_P g.1 vwCl (z9 ++ (wLs g b e1 e10 e11 ++ (wF g a b d f1 ++ (wSs g sh m10 m11 m12)))) H) (Ls_weights (g := g) (a := d) (s := up e1 (61 + 5 * r + 2) (h : Int)) (x10 := x8) (x11 := y8) (i := 0) (v := (w : Int) - 9) ⟨by omega, by omega⟩)) hP
              have hD := Eq.mp (congrArg (fun z9 : va_W => va_D (va_A (wF g a b d f1 ++ (wLs g b e1 e10 e11 ++ (wLs g d t1 t10 t11 ++ (wSs g sh m10 m11 m12)))) s.heap.size) (z9 ++ (wLs g b e1 e10 e11 ++ (wF g a b d f1 ++ (wSs g sh m10 m11 m12))))) (Ls_weights (g := g) (a := d) (s := up e1 (61 + 5 * r + 2) (h : Int)) (x10 := x8) (x11 := y8) (i := 0) (v := (w : Int) - 9) ⟨by omega, by omega⟩)) hD
              have hP : va_P g.1 vwCl (wLs g d (up (up e1 (61 + 5 * r + 2) (h : Int)) (3 + 0) ((w : Int) - 9)) x8 y8 ++ (wLs g b e1 e10 e11 ++ (wF g a b d f1 ++ (wSs g sh m10 m11 m12)))) H := hP
              have hD : va_D (va_A (wF g a b d f1 ++ (wLs g b e1 e10 e11 ++ (wLs g d t1 t10 t11 ++ (wSs g sh m10 m11 m12)))) s.heap.size) (wLs g d (up (up e1 (61 + 5 * r + 2) (h : Int)) (3 + 0) ((w : Int) - 9)) x8 y8 ++ (wLs g b e1 e10 e11 ++ (wF g a b d f1 ++ (wSs g sh m10 m11 m12)))) := hD
              obtain ⟨hP2, hPr0⟩ := va_P_app.mp hP
              obtain ⟨hP1, hPr1⟩ := va_P_app.mp hPr0
              obtain ⟨hP0, hP3⟩ := va_P_app.mp hPr1
              refine lv_aload_n hx hb dX0_matchingPairs_56 rfl (lv_at hl 3 rfl) ?_
              refine lv_aload_n hx hb dX0_matchingPairs_57 rfl (lv_at hl 4 rfl) ?_
              refine lv_iload_n hx hb dX0_matchingPairs_58 rfl (lv_at hl 5 rfl) ?_
              have hD : va_D (va_A (wF g a b d f1 ++ (wLs g b e1 e10 e11 ++ (wLs g d t1 t10 t11 ++ (wSs g sh m10 m11 m12)))) s.heap.size) (wLs g d (up (up e1 (61 + 5 * r + 2) (h : Int)) (3 + 0) ((w : Int) - 9)) x8 y8 ++ (wF g a b d f1 ++ (wLs g b e1 e10 e11 ++ (wSs g sh m10 m11 m12)))) := D_perm (List.Perm.append_left _ (List.perm_append_comm_assoc _ _ _)) hD
              have hD : va_D (va_A (wF g a b d f1 ++ (wLs g b e1 e10 e11 ++ (wLs g d t1 t10 t11 ++ (wSs g sh m10 m11 m12)))) s.heap.size) (wF g a b d f1 ++ (wLs g d (up (up e1 (61 + 5 * r + 2) (h : Int)) (3 + 0) ((w : Int) - 9)) x8 y8 ++ (wLs g b e1 e10 e11 ++ (wSs g sh m10 m11 m12)))) := D_perm (List.perm_append_comm_assoc _ _ _) hD
              have hD : va_D (va_A (wF g a b d f1 ++ (wLs g b e1 e10 e11 ++ (wLs g d t1 t10 t11 ++ (wSs g sh m10 m11 m12)))) s.heap.size) (wF g a b d f1 ++ (wLs g b e1 e10 e11 ++ (wLs g d (up (up e1 (61 + 5 * r + 2) (h : Int)) (3 + 0) ((w : Int) - 9)) x8 y8 ++ (wSs g sh m10 m11 m12)))) := D_perm (List.Perm.append_left _ (List.perm_append_comm_assoc _ _ _)) hD
              have hP : va_P g.1 vwCl (wF g a b d f1 ++ (wLs g b e1 e10 e11 ++ (wLs g d (up (up e1 (61 + 5 * r + 2) (h : Int)) (3 + 0) ((w : Int) - 9)) x8 y8 ++ (wSs g sh m10 m11 m12)))) H := va_P_app.mpr ⟨hP0, va_P_app.mpr ⟨hP1, va_P_app.mpr ⟨hP2, hP3⟩⟩⟩
              refine xm_i (rV (rest := []) hx hb hml hown hts hK hl (c_X0_trialGoesAs3 l g a f1 b e1 e10 e11 d (up (up e1 (61 + 5 * r + 2) (h : Int)) (3 + 0) ((w : Int) - 9)) x8 y8 sh m10 m11 m12 r H.size (show InvK 0 (up (up e1 (61 + 5 * r + 2) (h : Int)) (3 + 0) ((w : Int) - 9)) from hIu) (show (up (up e1 (61 + 5 * r + 2) (h : Int)) (3 + 0) ((w : Int) - 9)) 0 ≤ 9999 from by rw [up_n (by omega), up_n (by omega)]; omega) (show 0 ≤ r ∧ r < (up (up e1 (61 + 5 * r + 2) (h : Int)) (3 + 0) ((w : Int) - 9)) 1 from ⟨by omega, by rw [up_n (by omega), up_n (by omega)]; omega⟩) (show 0 ≤ m11 3 ∧ m11 3 ≤ 40 from by omega) (show ∀ j, LR (m12 j) from h5)) lk_X0_122 ⟨rfl, hP, hD.weaken (fun _ _ _ _ => trivial)⟩ (va_recv hK.1 hP0 (ci := 0) (q0 := 0) rfl rfl) rfl rfl rfl (Rm.of rfl) rfl rfl dX0_matchingPairs_59) hD hS hA (fun x9 u6 H locs hw hP hD hS => ?_)
              obtain rfl : x9 = iI (bI (soT (up (up e1 (61 + 5 * r + 2) (h : Int)) (3 + 0) ((w : Int) - 9)) m12 120 r (Int.toNat (m11 3)) = true)) := hw
              have hP : va_P g.1 vwCl (wF g a b d f1 ++ (wLs g b e1 e10 e11 ++ (wLs g d (u6 201) (u6 210) (u6 211) ++ (wSs g sh m10 m11 m12)))) H := hP
              have hD : va_D (va_A (wF g a b d f1 ++ (wLs g b e1 e10 e11 ++ (wLs g d t1 t10 t11 ++ (wSs g sh m10 m11 m12)))) s.heap.size) (wF g a b d f1 ++ (wLs g b e1 e10 e11 ++ (wLs g d (u6 201) (u6 210) (u6 211) ++ (wSs g sh m10 m11 m12)))) := hD
              obtain ⟨hP0, hPr0⟩ := va_P_app.mp hP
              obtain ⟨hP1, hPr1⟩ := va_P_app.mp hPr0
              obtain ⟨hP2, hP3⟩ := va_P_app.mp hPr1
              rcases bI_or (soT (up (up e1 (61 + 5 * r + 2) (h : Int)) (3 + 0) ((w : Int) - 9)) m12 120 r (Int.toNat (m11 3)) = true) with ⟨z6, e6⟩ | ⟨z6, e6⟩
              · rw [e6]
                refine xi_zf_eq hx hb ⟨by decide, by decide⟩ (by decide) dX0_matchingPairs_62 ⟨68, by decide⟩ ?_
                refine xi_inc (lv' := [(3, .int (iI (rdI (rdV e1 m12 120 r (m11 3)) h (rdO (rdV e1 m12 120 r (m11 3)) h) w + 1))), (5, .int (iI ((w : Int) - 9))), (4, .int (iI (h : Int))), (0, .ref (a 0)), (1, .ref (sh 6)), (2, .int (iI r))]) hx hb dX0_matchingPairs_65 hl (k := 2) rfl (by decide) rfl (fun ls hl => ?_)
                refine xi_inc (lv' := [(5, .int (iI ((w : Int) - 9 + 1))), (3, .int (iI (rdI (rdV e1 m12 120 r (m11 3)) h (rdO (rdV e1 m12 120 r (m11 3)) h) w + 1))), (4, .int (iI (h : Int))), (0, .ref (a 0)), (1, .ref (sh 6)), (2, .int (iI r))]) hx hb dX0_matchingPairs_68 hl (k := 1) rfl (by decide) rfl (fun ls hl => ?_)
                refine lv_goto (tgt := 16) hx hb dX0_matchingPairs_71 (by decide) ?_
                have hq7 : ((w : Int) - 9 + 1) = (((w + 1) : Int) - 9) := by omega
                have hq8 : (rdI (rdV e1 m12 120 r (m11 3)) h (rdO (rdV e1 m12 120 r (m11 3)) h) w + 1) = (rdI (rdV e1 m12 120 r (m11 3)) h (rdO (rdV e1 m12 120 r (m11 3)) h) (w + 1)) := by show _ = rdI (rdV e1 m12 120 r (m11 3)) h (rdO (rdV e1 m12 120 r (m11 3)) h) w + (rdV e1 m12 120 r (m11 3)) h w; unfold rdV; first | (rw [if_pos (by assumption)]; done) | (rw [if_neg (by assumption)]; omega)
                have hl : lv_has ls 6 [(5, .int (iI ((w : Int) - 9 + 1))), (4, .int (iI (h : Int))), (3, .int (iI (rdI (rdV e1 m12 120 r (m11 3)) h (rdO (rdV e1 m12 120 r (m11 3)) h) w + 1))), (0, .ref (a 0)), (1, .ref (sh 6)), (2, .int (iI r))] := lv_sub hl [0, 2, 1, 3, 4, 5] rfl
                have hl := Eq.mp (congrArg (fun z9 => lv_has ls 6 [(5, .int (iI z9)), (4, .int (iI (h : Int))), (3, .int (iI (rdI (rdV e1 m12 120 r (m11 3)) h (rdO (rdV e1 m12 120 r (m11 3)) h) w + 1))), (0, .ref (a 0)), (1, .ref (sh 6)), (2, .int (iI r))]) hq7) hl
                have hl := Eq.mp (congrArg (fun z9 => lv_has ls 6 [(5, .int (iI (((w + 1) : Int) - 9))), (4, .int (iI (h : Int))), (3, .int (iI z9)), (0, .ref (a 0)), (1, .ref (sh 6)), (2, .int (iI r))]) hq8) hl
                exact ih16 (w + 1) (u6 201) (u6 210) (u6 211) (by omega) (by omega) ls hl H locs hP hD hS
              · rw [e6]
                refine xi_zt_eq (tgt := 68) hx hb ⟨by decide, by decide⟩ (by decide) dX0_matchingPairs_62 (by decide) ?_
                refine xi_inc (lv' := [(5, .int (iI ((w : Int) - 9 + 1))), (4, .int (iI (h : Int))), (3, .int (iI (rdI (rdV e1 m12 120 r (m11 3)) h (rdO (rdV e1 m12 120 r (m11 3)) h) w))), (0, .ref (a 0)), (1, .ref (sh 6)), (2, .int (iI r))]) hx hb dX0_matchingPairs_68 hl (k := 0) rfl (by decide) rfl (fun ls hl => ?_)
                refine lv_goto (tgt := 16) hx hb dX0_matchingPairs_71 (by decide) ?_
                have hq9 : ((w : Int) - 9 + 1) = (((w + 1) : Int) - 9) := by omega
                have hq10 : (rdI (rdV e1 m12 120 r (m11 3)) h (rdO (rdV e1 m12 120 r (m11 3)) h) w) = (rdI (rdV e1 m12 120 r (m11 3)) h (rdO (rdV e1 m12 120 r (m11 3)) h) (w + 1)) := by show _ = rdI (rdV e1 m12 120 r (m11 3)) h (rdO (rdV e1 m12 120 r (m11 3)) h) w + (rdV e1 m12 120 r (m11 3)) h w; unfold rdV; first | (rw [if_pos (by assumption)]; done) | (rw [if_neg (by assumption)]; omega)
                have hl : lv_has ls 6 [(5, .int (iI ((w : Int) - 9 + 1))), (4, .int (iI (h : Int))), (3, .int (iI (rdI (rdV e1 m12 120 r (m11 3)) h (rdO (rdV e1 m12 120 r (m11 3)) h) w))), (0, .ref (a 0)), (1, .ref (sh 6)), (2, .int (iI r))] := lv_sub hl [0, 1, 2, 3, 4, 5] rfl
                have hl := Eq.mp (congrArg (fun z9 => lv_has ls 6 [(5, .int (iI z9)), (4, .int (iI (h : Int))), (3, .int (iI (rdI (rdV e1 m12 120 r (m11 3)) h (rdO (rdV e1 m12 120 r (m11 3)) h) w))), (0, .ref (a 0)), (1, .ref (sh 6)), (2, .int (iI r))]) hq9) hl
                have hl := Eq.mp (congrArg (fun z9 => lv_has ls 6 [(5, .int (iI (((w + 1) : Int) - 9))), (4, .int (iI (h : Int))), (3, .int (iI z9)), (0, .ref (a 0)), (1, .ref (sh 6)), (2, .int (iI r))]) hq10) hl
                exact ih16 (w + 1) (u6 201) (u6 210) (u6 211) (by omega) (by omega) ls hl H locs hP hD hS
        have hq11 : (-9) = ((0 : Int) - 9) := rfl
        have hq12 : (rdO (rdV e1 m12 120 r (m11 3)) h) = (rdI (rdV e1 m12 120 r (m11 3)) h (rdO (rdV e1 m12 120 r (m11 3)) h) 0) := rfl
        have hl : lv_has ls 6 [(5, .int (iI (-9))), (4, .int (iI (h : Int))), (3, .int (iI (rdO (rdV e1 m12 120 r (m11 3)) h))), (0, .ref (a 0)), (1, .ref (sh 6)), (2, .int (iI r))] := lv_sub hl [0, 1, 2, 3, 4, 5] rfl
        have hl := Eq.mp (congrArg (fun z9 => lv_has ls 6 [(5, .int (iI z9)), (4, .int (iI (h : Int))), (3, .int (iI (rdO (rdV e1 m12 120 r (m11 3)) h))), (0, .ref (a 0)), (1, .ref (sh 6)), (2, .int (iI r))]) hq11) hl
        have hl := Eq.mp (congrArg (fun z9 => lv_has ls 6 [(5, .int (iI ((0 : Int) - 9))), (4, .int (iI (h : Int))), (3, .int (iI z9)), (0, .ref (a 0)), (1, .ref (sh 6)), (2, .int (iI r))]) hq12) hl
        exact lp16 (19 + 1) 0 v9 x9 y9 (by omega) (by omega) ls hl H locs hP hD hS
  have hq13 : 0 = (0 : Int) := rfl
  have hq14 : 0 = (rdO (rdV e1 m12 120 r (m11 3)) 0) := rfl
  have hl : lv_has ls 6 [(4, .int (iI 0)), (3, .int (iI 0)), (0, .ref (a 0)), (1, .ref (sh 6)), (2, .int (iI r))] := lv_sub hl [0, 1, 2, 3, 4] rfl
  have hl := Eq.mp (congrArg (fun z9 => lv_has ls 6 [(4, .int (iI z9)), (3, .int (iI 0)), (0, .ref (a 0)), (1, .ref (sh 6)), (2, .int (iI r))]) hq13) hl
  have hl := Eq.mp (congrArg (fun z9 => lv_has ls 6 [(4, .int (iI (0 : Int))), (3, .int (iI z9)), (0, .ref (a 0)), (1, .ref (sh 6)), (2, .int (iI r))]) hq14) hl
  exact lp5 (10 + 1) 0 t1 t10 t11 (by omega) (by omega) ls hl s.heap [] hP hD hS
