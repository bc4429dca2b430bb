/-! THE CLAIM OUT OF ONE WALK OF THE LAW'S BODY. Your part is whole_start (and what it stands on); all else here is the same for every law, but numbers. -/
def R_law : String := "MountainFileLaw"
def lw_P (b : Addr) (xs : List Int32) (args : Array Value) (s : State) : Prop := args = #[.ref b] ∧ s.IntsAt b xs ∧ xs.length ≤ 3072 ∧ (Jvm.Cond.and given_1 narrow_1).before args s = true
def lw_Q (_ : Array Value) (s : State) (o : Outcome) (t : State) : Prop := o = .returned (some (.int 1)) ∧ Framed s o t [] 600000 7302250
def lw_Z (below : List Frame) (a : Array Value) (s : State) : State → Prop := fun t => ∃ o, t.status = .running ∧ Ended t below o ∧ lw_Q a s o t
/-- the law's own end, with 1 on the stack, nothing written that was there before, its room as the claim has it -/
theorem lw_ret {p : Program} {l : Launch} {e : Env} {s : State} {m : MethodId} {below : List Frame} {meth : Method} {c : Code} {b : Nat} (hx : p.tables.exec = Jvm.exec) (hb : c.code = code) (hr : meth.sig.returnType = ret) (hlocks : meth.locks = false) {pc : Nat} {H : Heap} {ls : Array Slot} (hdg : decode code pc = .ok (.ireturn, 1)) : W p l e room_1 s m #[Value.ref b] below meth c H [] 600000 7302250 (lw_Z below #[Value.ref b] s) (F0 m pc ls [.int 1]) := by
  intro T hT X
  obtain ⟨fs, hret, hrun, hended, hW, hframe⟩ := X.leave (v := some (.int 1)) (hlocks := hlocks) (fun h => by rw [hr] at h; cases h)
  have hmeth' : T.vm.method? m = some meth := X.method'
  refine ⟨T.setFrames fs, ?_, .returned (some (.int 1)), hrun, hended, rfl, ⟨_, rfl⟩, hW, hframe⟩
  jvm_step X.here [X.here.top, hx, hb, hdg, hmeth', hr, ret, narrow_b1]
  (try refine ⟨rfl, ?_⟩); (try refine ⟨rfl, ?_⟩)
  first | (intro acts; rw [hret _ acts rfl rfl rfl]) | rw [hret _ _ rfl rfl rfl]
  exact Steps.refl _
/-- what holds at the law's entry: the machine, the code, the tables' words (any of lw_tbl by 'hts w (by decide +kernel)'), the script of L ints xs at the cell b, what the Statement gives of the start (any of its parts by flat_of_before) -/
def lw_At (p : Program) (s : State) (m : MethodId) (meth : Method) (c : Code) (b L : Nat) (xs : Nat → Int32) : Prop :=
  p.tables.exec = Jvm.exec ∧ c.code = code ∧ meth.sig.returnType = ret ∧ c.maxLocals = 4 ∧ s.vm.findClass R_law = some m.cls ∧ (∀ w ∈ lw_tbl, w.before #[Value.ref b] s = true) ∧ va_X b L xs s s.heap ∧ b < s.heap.size ∧ meth.locks = false ∧ (Jvm.Cond.and given_1 narrow_1).before #[Value.ref b] s = true
theorem zp (n : Int) (h : (0 : Int) ≤ n) (k : Int) : 0 ≤ z0 k ∧ z0 k ≤ n := ⟨Int.le_refl 0, h⟩
theorem iv_0 : IV z0 := by
  refine ⟨⟨⟨by decide, by decide⟩, ⟨by decide, by decide⟩, ⟨by decide, by decide⟩, fun j _ _ => ?_, fun c _ _ => ?_, fun v h0 h1 => ?_, fun r h0 h1 => ?_, fun r q h0 h1 => ?_⟩, by decide⟩
  · exact ⟨(show (-9 : Int) ≤ 0 by decide), (show (0 : Int) ≤ 9 by decide)⟩
  · exact ⟨(show (0 : Int) ≤ 0 by decide), (show (0 : Int) ≤ 9 by decide), (show (0 : Int) ≤ 0 by decide), (show (0 : Int) ≤ 9 by decide)⟩
  · exact absurd h1 (by show ¬ v < 0; omega)
  · exact absurd h1 (by show ¬ r < 0; omega)
  · exact absurd h1 (by show ¬ r < 0; omega)
theorem lv_00 : LV (fun _ => z0) := by
  refine ⟨iv_0, iv_0, Or.inl rfl, fun _ => ?_, ⟨by decide, by decide⟩, fun k _ _ => ?_, fun _ => ?_, ⟨by decide, by decide⟩⟩
  · exact ⟨(show (0 : Int) ≤ 0 by decide), (show (0 : Int) ≤ 255 by decide)⟩
  · exact ⟨Or.inl rfl, (show (0 : Int) ≤ 0 by decide), (show (0 : Int) ≤ 40 by decide)⟩
  · exact ⟨(show (-9223372036854775808 : Int) ≤ 0 by decide), (show (0 : Int) ≤ 9223372036854775807 by decide)⟩
set_option maxRecDepth 100000 in
set_option maxHeartbeats 8000000 in
theorem law_loop {p : Program} {l : Launch} {e : Env} {s : State} {m : MethodId} {below : List Frame} {meth : Method} {c : Code} {g : Gd} {σ : Sg} {bs L : Nat} {xs : Nat → Int32} (hL : L ≤ 3072) (hC : LCx g σ p s m c bs L xs) (hr : meth.sig.returnType = ret) (hlocks : meth.locks = false) (A : Nat → Nat → Nat) : ∀ (n i9 : Nat), i9 ≤ 4000 → 5000 - i9 < n → ∀ (u : Nat → Int → Int) (H : Heap) (locs : List Loc) (ls : Array Slot), LV u → lv_has ls 4 [(3, .int (iI (i9 : Int))), (2, .ref (A 7 0)), (1, .ref (A 0 0)), (0, .ref bs)] → va_P g.1 vwCl (LW g A u) H → va_D (fun q : Nat => s.heap.size ≤ q) (LW g A u) → va_S (fun q : Nat => s.heap.size ≤ q) s.heap H locs → W p l e room_1 s m #[Value.ref bs] below meth c H locs 65 1678 (lw_Z below #[Value.ref bs] s) (F0 m 18 ls []) := by
  intro n
  induction n with
  | zero => intro i9 h0 h; exact absurd h (Nat.not_lt_zero _)
  | succ n ih =>
    intro i9 hi0 hm u H locs ls hV hl hP hD hS
    obtain ⟨hx, hb, hml, hown, hts, hK, hX, hbl, hSB⟩ := id hC
    have hbA : ¬ (fun q : Nat => s.heap.size ≤ q) bs := Nat.not_le.mpr hbl
    refine lv_iload_n hx hb dL_law_18 rfl (lv_at hl 0 rfl) ?_
    refine lv_aload_n hx hb dL_law_19 rfl (lv_at hl 3 rfl) ?_
    refine va_slen hx hb hX hbl hbA hS dL_law_20 ?_
    rw [show Int32.ofNat L = iI (L : Int) from (iI_nat L).symm]
    refine lv_bipush (v := iI (6)) hx hb dL_law_21 (by decide) ?_
    refine xi_sub hx hb dL_law_23 ?_
    refine xi_c_gt (tgt := 1479) hx hb ⟨by omega, by omega⟩ ⟨by omega, by omega⟩ dL_law_24 (by decide) (fun z => ?_) (fun z => ?_)
    · refine lv_iconst (v := 1) hx hb dL_law_1479 (by decide) ?_
      refine va_forget hS.2.2 ?_
      refine W.widen (k := 600000) (n := 7302250) (by omega) (by omega) ?_
      exact lw_ret hx hb hr hlocks dL_law_1480
    · have hi6 : i9 + 6 ≤ L := by omega
      have K : ∀ (u : Nat → Int → Int) (H : Heap) (locs : List Loc), LV u → va_P g.1 vwCl (LW g A u) H → va_D (fun q : Nat => s.heap.size ≤ q) (LW g A u) → va_S (fun q : Nat => s.heap.size ≤ q) s.heap H locs → W p l e room_1 s m #[Value.ref bs] below meth c H locs 65 1678 (lw_Z below #[Value.ref bs] s) (F0 m 1473 ls []) := by
        intro u H locs hV hP hD hS
        refine xi_inc (lv' := [(3, .int (iI ((i9 : Int) + 6))), (2, .ref (A 7 0)), (1, .ref (A 0 0)), (0, .ref bs)]) hx hb dL_law_1473 hl (k := 0) rfl (by decide) rfl (fun ls hl => ?_)
        refine lv_goto (tgt := 18) hx hb dL_law_1476 (by decide) ?_
        refine ih (i9 + 6) (by omega) (by omega) u H locs ls hV ?_ hP hD hS
        rw [show ((i9 + 6 : Nat) : Int) = (i9 : Int) + 6 by omega]
        exact hl
      refine lv_aload_n hx hb dL_law_27 rfl (lv_at hl 3 rfl) ?_
      refine lv_iload_n hx hb dL_law_28 rfl (lv_at hl 0 rfl) ?_
      refine xs_ld (i := (i9 : Int)) (j := i9) hx hb hX hbl hbA hS rfl (by omega) hL dL_law_29 ?_
      refine lv_bipush (v := iI (63)) hx hb dL_law_30 (by decide) ?_
      refine lv_iand hx hb dL_law_32 ?_
      refine xi_raw hx hb ?_
      have hir := IR_of ((iI (xs i9).toInt) &&& (iI 63))
      generalize Int32.toInt ((iI (xs i9).toInt) &&& (iI 63)) = y at hir ⊢
      rcases (show y = 0 ∨ y = 1 ∨ y = 2 ∨ y = 3 ∨ y = 4 ∨ y = 5 ∨ y = 6 ∨ y = 7 ∨ y = 8 ∨ y = 9 ∨ y = 10 ∨ y = 11 ∨ y = 12 ∨ y = 13 ∨ y = 14 ∨ y = 15 ∨ y = 16 ∨ y = 17 ∨ y = 18 ∨ y = 19 ∨ y = 20 ∨ y = 21 ∨ y = 22 ∨ y = 23 ∨ y = 24 ∨ y = 25 ∨ y = 26 ∨ y = 27 ∨ y = 28 ∨ y = 29 ∨ y = 30 ∨ y = 31 ∨ y = 32 ∨ y = 33 ∨ y = 34 ∨ y = 35 ∨ y = 36 ∨ y = 37 ∨ y = 38 ∨ y = 39 ∨ y = 40 ∨ y = 41 ∨ (y < 0 ∨ 41 < y) by omega) with z9 | z9 | z9 | z9 | z9 | z9 | z9 | z9 | z9 | z9 | z9 | z9 | z9 | z9 | z9 | z9 | z9 | z9 | z9 | z9 | z9 | z9 | z9 | z9 | z9 | z9 | z9 | z9 | z9 | z9 | z9 | z9 | z9 | z9 | z9 | z9 | z9 | z9 | z9 | z9 | z9 | z9 | z9
      · refine lv_tableIn (tgt := 216) (off := 183) hx hb dL_law_33 (by rw [iI_toInt hir, z9]; decide) (by rw [iI_toInt hir, z9]; decide) (by rw [iI_toInt hir, z9]; rfl) (by decide) ?_
        exact lc_0 hL hC (A 0) (A 1) (A 2) (A 3) (A 4) (A 5) (A 6) (A 7) (u 0) (u 2) (u 3) (u 4) (u 5) (u 6) (u 7) (u 8) (u 9) (u 10) (u 11) (u 12) (u 18) (u 19) (u 20) (u 21) (u 22) (u 23) (u 24) (u 25) (u 26) (u 1 0) (u 13 0) (u 14 0) (u 15 0) (u 16 0) (u 17 0) (u 27 0) (u 28 0) (u 29 0) (u 30 0) hV hi6 hl hP hD hS K
      · refine lv_tableIn (tgt := 259) (off := 226) hx hb dL_law_33 (by rw [iI_toInt hir, z9]; decide) (by rw [iI_toInt hir, z9]; decide) (by rw [iI_toInt hir, z9]; rfl) (by decide) ?_
        exact lc_1 hL hC (A 0) (A 1) (A 2) (A 3) (A 4) (A 5) (A 6) (A 7) (u 0) (u 2) (u 3) (u 4) (u 5) (u 6) (u 7) (u 8) (u 9) (u 10) (u 11) (u 12) (u 18) (u 19) (u 20) (u 21) (u 22) (u 23) (u 24) (u 25) (u 26) (u 1 0) (u 13 0) (u 14 0) (u 15 0) (u 16 0) (u 17 0) (u 27 0) (u 28 0) (u 29 0) (u 30 0) hV hi6 hl hP hD hS K
      · refine lv_tableIn (tgt := 292) (off := 259) hx hb dL_law_33 (by rw [iI_toInt hir, z9]; decide) (by rw [iI_toInt hir, z9]; decide) (by rw [iI_toInt hir, z9]; rfl) (by decide) ?_
        exact lc_2 hL hC (A 0) (A 1) (A 2) (A 3) (A 4) (A 5) (A 6) (A 7) (u 0) (u 2) (u 3) (u 4) (u 5) (u 6) (u 7) (u 8) (u 9) (u 10) (u 11) (u 12) (u 18) (u 19) (u 20) (u 21) (u 22) (u 23) (u 24) (u 25) (u 26) (u 1 0) (u 13 0) (u 14 0) (u 15 0) (u 16 0) (u 17 0) (u 27 0) (u 28 0) (u 29 0) (u 30 0) hV hi6 hl hP hD hS K
      · refine lv_tableIn (tgt := 315) (off := 282) hx hb dL_law_33 (by rw [iI_toInt hir, z9]; decide) (by rw [iI_toInt hir, z9]; decide) (by rw [iI_toInt hir, z9]; rfl) (by decide) ?_
        exact lc_3 hL hC (A 0) (A 1) (A 2) (A 3) (A 4) (A 5) (A 6) (A 7) (u 0) (u 2) (u 3) (u 4) (u 5) (u 6) (u 7) (u 8) (u 9) (u 10) (u 11) (u 12) (u 18) (u 19) (u 20) (u 21) (u 22) (u 23) (u 24) (u 25) (u 26) (u 1 0) (u 13 0) (u 14 0) (u 15 0) (u 16 0) (u 17 0) (u 27 0) (u 28 0) (u 29 0) (u 30 0) hV hi6 hl hP hD hS K
      · refine lv_tableIn (tgt := 348) (off := 315) hx hb dL_law_33 (by rw [iI_toInt hir, z9]; decide) (by rw [iI_toInt hir, z9]; decide) (by rw [iI_toInt hir, z9]; rfl) (by decide) ?_
        exact lc_4 hL hC (A 0) (A 1) (A 2) (A 3) (A 4) (A 5) (A 6) (A 7) (u 0) (u 2) (u 3) (u 4) (u 5) (u 6) (u 7) (u 8) (u 9) (u 10) (u 11) (u 12) (u 18) (u 19) (u 20) (u 21) (u 22) (u 23) (u 24) (u 25) (u 26) (u 1 0) (u 13 0) (u 14 0) (u 15 0) (u 16 0) (u 17 0) (u 27 0) (u 28 0) (u 29 0) (u 30 0) hV hi6 hl hP hD hS K
      · refine lv_tableIn (tgt := 381) (off := 348) hx hb dL_law_33 (by rw [iI_toInt hir, z9]; decide) (by rw [iI_toInt hir, z9]; decide) (by rw [iI_toInt hir, z9]; rfl) (by decide) ?_
        exact lc_5 hL hC (A 0) (A 1) (A 2) (A 3) (A 4) (A 5) (A 6) (A 7) (u 0) (u 2) (u 3) (u 4) (u 5) (u 6) (u 7) (u 8) (u 9) (u 10) (u 11) (u 12) (u 18) (u 19) (u 20) (u 21) (u 22) (u 23) (u 24) (u 25) (u 26) (u 1 0) (u 13 0) (u 14 0) (u 15 0) (u 16 0) (u 17 0) (u 27 0) (u 28 0) (u 29 0) (u 30 0) hV hi6 hl hP hD hS K
      · refine lv_tableIn (tgt := 414) (off := 381) hx hb dL_law_33 (by rw [iI_toInt hir, z9]; decide) (by rw [iI_toInt hir, z9]; decide) (by rw [iI_toInt hir, z9]; rfl) (by decide) ?_
        exact lc_6 hL hC (A 0) (A 1) (A 2) (A 3) (A 4) (A 5) (A 6) (A 7) (u 0) (u 2) (u 3) (u 4) (u 5) (u 6) (u 7) (u 8) (u 9) (u 10) (u 11) (u 12) (u 18) (u 19) (u 20) (u 21) (u 22) (u 23) (u 24) (u 25) (u 26) (u 1 0) (u 13 0) (u 14 0) (u 15 0) (u 16 0) (u 17 0) (u 27 0) (u 28 0) (u 29 0) (u 30 0) hV hi6 hl hP hD hS K
      · refine lv_tableIn (tgt := 447) (off := 414) hx hb dL_law_33 (by rw [iI_toInt hir, z9]; decide) (by rw [iI_toInt hir, z9]; decide) (by rw [iI_toInt hir, z9]; rfl) (by decide) ?_
        exact lc_7 hL hC (A 0) (A 1) (A 2) (A 3) (A 4) (A 5) (A 6) (A 7) (u 0) (u 2) (u 3) (u 4) (u 5) (u 6) (u 7) (u 8) (u 9) (u 10) (u 11) (u 12) (u 18) (u 19) (u 20) (u 21) (u 22) (u 23) (u 24) (u 25) (u 26) (u 1 0) (u 13 0) (u 14 0) (u 15 0) (u 16 0) (u 17 0) (u 27 0) (u 28 0) (u 29 0) (u 30 0) hV hi6 hl hP hD hS K
      · refine lv_tableIn (tgt := 490) (off := 457) hx hb dL_law_33 (by rw [iI_toInt hir, z9]; decide) (by rw [iI_toInt hir, z9]; decide) (by rw [iI_toInt hir, z9]; rfl) (by decide) ?_
        exact lc_8 hL hC (A 0) (A 1) (A 2) (A 3) (A 4) (A 5) (A 6) (A 7) (u 0) (u 2) (u 3) (u 4) (u 5) (u 6) (u 7) (u 8) (u 9) (u 10) (u 11) (u 12) (u 18) (u 19) (u 20) (u 21) (u 22) (u 23) (u 24) (u 25) (u 26) (u 1 0) (u 13 0) (u 14 0) (u 15 0) (u 16 0) (u 17 0) (u 27 0) (u 28 0) (u 29 0) (u 30 0) hV hi6 hl hP hD hS K
      · refine lv_tableIn (tgt := 523) (off := 490) hx hb dL_law_33 (by rw [iI_toInt hir, z9]; decide) (by rw [iI_toInt hir, z9]; decide) (by rw [iI_toInt hir, z9]; rfl) (by decide) ?_
        exact lc_9 hL hC (A 0) (A 1) (A 2) (A 3) (A 4) (A 5) (A 6) (A 7) (u 0) (u 2) (u 3) (u 4) (u 5) (u 6) (u 7) (u 8) (u 9) (u 10) (u 11) (u 12) (u 18) (u 19) (u 20) (u 21) (u 22) (u 23) (u 24) (u 25) (u 26) (u 1 0) (u 13 0) (u 14 0) (u 15 0) (u 16 0) (u 17 0) (u 27 0) (u 28 0) (u 29 0) (u 30 0) hV hi6 hl hP hD hS K
      · refine lv_tableIn (tgt := 556) (off := 523) hx hb dL_law_33 (by rw [iI_toInt hir, z9]; decide) (by rw [iI_toInt hir, z9]; decide) (by rw [iI_toInt hir, z9]; rfl) (by decide) ?_
        exact lc_10 hL hC (A 0) (A 1) (A 2) (A 3) (A 4) (A 5) (A 6) (A 7) (u 0) (u 2) (u 3) (u 4) (u 5) (u 6) (u 7) (u 8) (u 9) (u 10) (u 11) (u 12) (u 18) (u 19) (u 20) (u 21) (u 22) (u 23) (u 24) (u 25) (u 26) (u 1 0) (u 13 0) (u 14 0) (u 15 0) (u 16 0) (u 17 0) (u 27 0) (u 28 0) (u 29 0) (u 30 0) hV hi6 hl hP hD hS K
      · refine lv_tableIn (tgt := 579) (off := 546) hx hb dL_law_33 (by rw [iI_toInt hir, z9]; decide) (by rw [iI_toInt hir, z9]; decide) (by rw [iI_toInt hir, z9]; rfl) (by decide) ?_
        exact lc_11 hL hC (A 0) (A 1) (A 2) (A 3) (A 4) (A 5) (A 6) (A 7) (u 0) (u 2) (u 3) (u 4) (u 5) (u 6) (u 7) (u 8) (u 9) (u 10) (u 11) (u 12) (u 18) (u 19) (u 20) (u 21) (u 22) (u 23) (u 24) (u 25) (u 26) (u 1 0) (u 13 0) (u 14 0) (u 15 0) (u 16 0) (u 17 0) (u 27 0) (u 28 0) (u 29 0) (u 30 0) hV hi6 hl hP hD hS K
      · refine lv_tableIn (tgt := 602) (off := 569) hx hb dL_law_33 (by rw [iI_toInt hir, z9]; decide) (by rw [iI_toInt hir, z9]; decide) (by rw [iI_toInt hir, z9]; rfl) (by decide) ?_
        exact lc_12 hL hC (A 0) (A 1) (A 2) (A 3) (A 4) (A 5) (A 6) (A 7) (u 0) (u 2) (u 3) (u 4) (u 5) (u 6) (u 7) (u 8) (u 9) (u 10) (u 11) (u 12) (u 18) (u 19) (u 20) (u 21) (u 22) (u 23) (u 24) (u 25) (u 26) (u 1 0) (u 13 0) (u 14 0) (u 15 0) (u 16 0) (u 17 0) (u 27 0) (u 28 0) (u 29 0) (u 30 0) hV hi6 hl hP hD hS K
      · refine lv_tableIn (tgt := 625) (off := 592) hx hb dL_law_33 (by rw [iI_toInt hir, z9]; decide) (by rw [iI_toInt hir, z9]; decide) (by rw [iI_toInt hir, z9]; rfl) (by decide) ?_
        exact lc_13 hL hC (A 0) (A 1) (A 2) (A 3) (A 4) (A 5) (A 6) (A 7) (u 0) (u 2) (u 3) (u 4) (u 5) (u 6) (u 7) (u 8) (u 9) (u 10) (u 11) (u 12) (u 18) (u 19) (u 20) (u 21) (u 22) (u 23) (u 24) (u 25) (u 26) (u 1 0) (u 13 0) (u 14 0) (u 15 0) (u 16 0) (u 17 0) (u 27 0) (u 28 0) (u 29 0) (u 30 0) hV hi6 hl hP hD hS K
      · refine lv_tableIn (tgt := 668) (off := 635) hx hb dL_law_33 (by rw [iI_toInt hir, z9]; decide) (by rw [iI_toInt hir, z9]; decide) (by rw [iI_toInt hir, z9]; rfl) (by decide) ?_
        exact lc_14 hL hC (A 0) (A 1) (A 2) (A 3) (A 4) (A 5) (A 6) (A 7) (u 0) (u 2) (u 3) (u 4) (u 5) (u 6) (u 7) (u 8) (u 9) (u 10) (u 11) (u 12) (u 18) (u 19) (u 20) (u 21) (u 22) (u 23) (u 24) (u 25) (u 26) (u 1 0) (u 13 0) (u 14 0) (u 15 0) (u 16 0) (u 17 0) (u 27 0) (u 28 0) (u 29 0) (u 30 0) hV hi6 hl hP hD hS K
      · refine lv_tableIn (tgt := 701) (off := 668) hx hb dL_law_33 (by rw [iI_toInt hir, z9]; decide) (by rw [iI_toInt hir, z9]; decide) (by rw [iI_toInt hir, z9]; rfl) (by decide) ?_
        exact lc_15 hL hC (A 0) (A 1) (A 2) (A 3) (A 4) (A 5) (A 6) (A 7) (u 0) (u 2) (u 3) (u 4) (u 5) (u 6) (u 7) (u 8) (u 9) (u 10) (u 11) (u 12) (u 18) (u 19) (u 20) (u 21) (u 22) (u 23) (u 24) (u 25) (u 26) (u 1 0) (u 13 0) (u 14 0) (u 15 0) (u 16 0) (u 17 0) (u 27 0) (u 28 0) (u 29 0) (u 30 0) hV hi6 hl hP hD hS K
      · refine lv_tableIn (tgt := 724) (off := 691) hx hb dL_law_33 (by rw [iI_toInt hir, z9]; decide) (by rw [iI_toInt hir, z9]; decide) (by rw [iI_toInt hir, z9]; rfl) (by decide) ?_
        exact lc_16 hL hC (A 0) (A 1) (A 2) (A 3) (A 4) (A 5) (A 6) (A 7) (u 0) (u 2) (u 3) (u 4) (u 5) (u 6) (u 7) (u 8) (u 9) (u 10) (u 11) (u 12) (u 18) (u 19) (u 20) (u 21) (u 22) (u 23) (u 24) (u 25) (u 26) (u 1 0) (u 13 0) (u 14 0) (u 15 0) (u 16 0) (u 17 0) (u 27 0) (u 28 0) (u 29 0) (u 30 0) hV hi6 hl hP hD hS K
      · refine lv_tableIn (tgt := 757) (off := 724) hx hb dL_law_33 (by rw [iI_toInt hir, z9]; decide) (by rw [iI_toInt hir, z9]; decide) (by rw [iI_toInt hir, z9]; rfl) (by decide) ?_
        exact lc_17 hL hC (A 0) (A 1) (A 2) (A 3) (A 4) (A 5) (A 6) (A 7) (u 0) (u 2) (u 3) (u 4) (u 5) (u 6) (u 7) (u 8) (u 9) (u 10) (u 11) (u 12) (u 18) (u 19) (u 20) (u 21) (u 22) (u 23) (u 24) (u 25) (u 26) (u 1 0) (u 13 0) (u 14 0) (u 15 0) (u 16 0) (u 17 0) (u 27 0) (u 28 0) (u 29 0) (u 30 0) hV hi6 hl hP hD hS K
      · refine lv_tableIn (tgt := 770) (off := 737) hx hb dL_law_33 (by rw [iI_toInt hir, z9]; decide) (by rw [iI_toInt hir, z9]; decide) (by rw [iI_toInt hir, z9]; rfl) (by decide) ?_
        exact lc_18 hL hC (A 0) (A 1) (A 2) (A 3) (A 4) (A 5) (A 6) (A 7) (u 0) (u 2) (u 3) (u 4) (u 5) (u 6) (u 7) (u 8) (u 9) (u 10) (u 11) (u 12) (u 18) (u 19) (u 20) (u 21) (u 22) (u 23) (u 24) (u 25) (u 26) (u 1 0) (u 13 0) (u 14 0) (u 15 0) (u 16 0) (u 17 0) (u 27 0) (u 28 0) (u 29 0) (u 30 0) hV hi6 hl hP hD hS K
      · refine lv_tableIn (tgt := 793) (off := 760) hx hb dL_law_33 (by rw [iI_toInt hir, z9]; decide) (by rw [iI_toInt hir, z9]; decide) (by rw [iI_toInt hir, z9]; rfl) (by decide) ?_
        exact lc_19 hL hC (A 0) (A 1) (A 2) (A 3) (A 4) (A 5) (A 6) (A 7) (u 0) (u 2) (u 3) (u 4) (u 5) (u 6) (u 7) (u 8) (u 9) (u 10) (u 11) (u 12) (u 18) (u 19) (u 20) (u 21) (u 22) (u 23) (u 24) (u 25) (u 26) (u 1 0) (u 13 0) (u 14 0) (u 15 0) (u 16 0) (u 17 0) (u 27 0) (u 28 0) (u 29 0) (u 30 0) hV hi6 hl hP hD hS K
      · refine lv_tableIn (tgt := 816) (off := 783) hx hb dL_law_33 (by rw [iI_toInt hir, z9]; decide) (by rw [iI_toInt hir, z9]; decide) (by rw [iI_toInt hir, z9]; rfl) (by decide) ?_
        exact lc_20 hL hC (A 0) (A 1) (A 2) (A 3) (A 4) (A 5) (A 6) (A 7) (u 0) (u 2) (u 3) (u 4) (u 5) (u 6) (u 7) (u 8) (u 9) (u 10) (u 11) (u 12) (u 18) (u 19) (u 20) (u 21) (u 22) (u 23) (u 24) (u 25) (u 26) (u 1 0) (u 13 0) (u 14 0) (u 15 0) (u 16 0) (u 17 0) (u 27 0) (u 28 0) (u 29 0) (u 30 0) hV hi6 hl hP hD hS K
      · refine lv_tableIn (tgt := 829) (off := 796) hx hb dL_law_33 (by rw [iI_toInt hir, z9]; decide) (by rw [iI_toInt hir, z9]; decide) (by rw [iI_toInt hir, z9]; rfl) (by decide) ?_
        exact lc_21 hL hC (A 0) (A 1) (A 2) (A 3) (A 4) (A 5) (A 6) (A 7) (u 0) (u 2) (u 3) (u 4) (u 5) (u 6) (u 7) (u 8) (u 9) (u 10) (u 11) (u 12) (u 18) (u 19) (u 20) (u 21) (u 22) (u 23) (u 24) (u 25) (u 26) (u 1 0) (u 13 0) (u 14 0) (u 15 0) (u 16 0) (u 17 0) (u 27 0) (u 28 0) (u 29 0) (u 30 0) hV hi6 hl hP hD hS K
      · refine lv_tableIn (tgt := 872) (off := 839) hx hb dL_law_33 (by rw [iI_toInt hir, z9]; decide) (by rw [iI_toInt hir, z9]; decide) (by rw [iI_toInt hir, z9]; rfl) (by decide) ?_
        exact lc_22 hL hC (A 0) (A 1) (A 2) (A 3) (A 4) (A 5) (A 6) (A 7) (u 0) (u 2) (u 3) (u 4) (u 5) (u 6) (u 7) (u 8) (u 9) (u 10) (u 11) (u 12) (u 18) (u 19) (u 20) (u 21) (u 22) (u 23) (u 24) (u 25) (u 26) (u 1 0) (u 13 0) (u 14 0) (u 15 0) (u 16 0) (u 17 0) (u 27 0) (u 28 0) (u 29 0) (u 30 0) hV hi6 hl hP hD hS K
      · refine lv_tableIn (tgt := 905) (off := 872) hx hb dL_law_33 (by rw [iI_toInt hir, z9]; decide) (by rw [iI_toInt hir, z9]; decide) (by rw [iI_toInt hir, z9]; rfl) (by decide) ?_
        exact lc_23 hL hC (A 0) (A 1) (A 2) (A 3) (A 4) (A 5) (A 6) (A 7) (u 0) (u 2) (u 3) (u 4) (u 5) (u 6) (u 7) (u 8) (u 9) (u 10) (u 11) (u 12) (u 18) (u 19) (u 20) (u 21) (u 22) (u 23) (u 24) (u 25) (u 26) (u 1 0) (u 13 0) (u 14 0) (u 15 0) (u 16 0) (u 17 0) (u 27 0) (u 28 0) (u 29 0) (u 30 0) hV hi6 hl hP hD hS K
      · refine lv_tableIn (tgt := 938) (off := 905) hx hb dL_law_33 (by rw [iI_toInt hir, z9]; decide) (by rw [iI_toInt hir, z9]; decide) (by rw [iI_toInt hir, z9]; rfl) (by decide) ?_
        exact lc_24 hL hC (A 0) (A 1) (A 2) (A 3) (A 4) (A 5) (A 6) (A 7) (u 0) (u 2) (u 3) (u 4) (u 5) (u 6) (u 7) (u 8) (u 9) (u 10) (u 11) (u 12) (u 18) (u 19) (u 20) (u 21) (u 22) (u 23) (u 24) (u 25) (u 26) (u 1 0) (u 13 0) (u 14 0) (u 15 0) (u 16 0) (u 17 0) (u 27 0) (u 28 0) (u 29 0) (u 30 0) hV hi6 hl hP hD hS K
      · refine lv_tableIn (tgt := 971) (off := 938) hx hb dL_law_33 (by rw [iI_toInt hir, z9]; decide) (by rw [iI_toInt hir, z9]; decide) (by rw [iI_toInt hir, z9]; rfl) (by decide) ?_
        exact lc_25 hL hC (A 0) (A 1) (A 2) (A 3) (A 4) (A 5) (A 6) (A 7) (u 0) (u 2) (u 3) (u 4) (u 5) (u 6) (u 7) (u 8) (u 9) (u 10) (u 11) (u 12) (u 18) (u 19) (u 20) (u 21) (u 22) (u 23) (u 24) (u 25) (u 26) (u 1 0) (u 13 0) (u 14 0) (u 15 0) (u 16 0) (u 17 0) (u 27 0) (u 28 0) (u 29 0) (u 30 0) hV hi6 hl hP hD hS K
      · refine lv_tableIn (tgt := 994) (off := 961) hx hb dL_law_33 (by rw [iI_toInt hir, z9]; decide) (by rw [iI_toInt hir, z9]; decide) (by rw [iI_toInt hir, z9]; rfl) (by decide) ?_
        exact lc_26 hL hC (A 0) (A 1) (A 2) (A 3) (A 4) (A 5) (A 6) (A 7) (u 0) (u 2) (u 3) (u 4) (u 5) (u 6) (u 7) (u 8) (u 9) (u 10) (u 11) (u 12) (u 18) (u 19) (u 20) (u 21) (u 22) (u 23) (u 24) (u 25) (u 26) (u 1 0) (u 13 0) (u 14 0) (u 15 0) (u 16 0) (u 17 0) (u 27 0) (u 28 0) (u 29 0) (u 30 0) hV hi6 hl hP hD hS K
      · refine lv_tableIn (tgt := 1027) (off := 994) hx hb dL_law_33 (by rw [iI_toInt hir, z9]; decide) (by rw [iI_toInt hir, z9]; decide) (by rw [iI_toInt hir, z9]; rfl) (by decide) ?_
        exact lc_27 hL hC (A 0) (A 1) (A 2) (A 3) (A 4) (A 5) (A 6) (A 7) (u 0) (u 2) (u 3) (u 4) (u 5) (u 6) (u 7) (u 8) (u 9) (u 10) (u 11) (u 12) (u 18) (u 19) (u 20) (u 21) (u 22) (u 23) (u 24) (u 25) (u 26) (u 1 0) (u 13 0) (u 14 0) (u 15 0) (u 16 0) (u 17 0) (u 27 0) (u 28 0) (u 29 0) (u 30 0) hV hi6 hl hP hD hS K
      · refine lv_tableIn (tgt := 1060) (off := 1027) hx hb dL_law_33 (by rw [iI_toInt hir, z9]; decide) (by rw [iI_toInt hir, z9]; decide) (by rw [iI_toInt hir, z9]; rfl) (by decide) ?_
        exact lc_28 hL hC (A 0) (A 1) (A 2) (A 3) (A 4) (A 5) (A 6) (A 7) (u 0) (u 2) (u 3) (u 4) (u 5) (u 6) (u 7) (u 8) (u 9) (u 10) (u 11) (u 12) (u 18) (u 19) (u 20) (u 21) (u 22) (u 23) (u 24) (u 25) (u 26) (u 1 0) (u 13 0) (u 14 0) (u 15 0) (u 16 0) (u 17 0) (u 27 0) (u 28 0) (u 29 0) (u 30 0) hV hi6 hl hP hD hS K
      · refine lv_tableIn (tgt := 1093) (off := 1060) hx hb dL_law_33 (by rw [iI_toInt hir, z9]; decide) (by rw [iI_toInt hir, z9]; decide) (by rw [iI_toInt hir, z9]; rfl) (by decide) ?_
        exact lc_29 hL hC (A 0) (A 1) (A 2) (A 3) (A 4) (A 5) (A 6) (A 7) (u 0) (u 2) (u 3) (u 4) (u 5) (u 6) (u 7) (u 8) (u 9) (u 10) (u 11) (u 12) (u 18) (u 19) (u 20) (u 21) (u 22) (u 23) (u 24) (u 25) (u 26) (u 1 0) (u 13 0) (u 14 0) (u 15 0) (u 16 0) (u 17 0) (u 27 0) (u 28 0) (u 29 0) (u 30 0) hV hi6 hl hP hD hS K
      · refine lv_tableIn (tgt := 1106) (off := 1073) hx hb dL_law_33 (by rw [iI_toInt hir, z9]; decide) (by rw [iI_toInt hir, z9]; decide) (by rw [iI_toInt hir, z9]; rfl) (by decide) ?_
        exact lc_30 hL hC (A 0) (A 1) (A 2) (A 3) (A 4) (A 5) (A 6) (A 7) (u 0) (u 2) (u 3) (u 4) (u 5) (u 6) (u 7) (u 8) (u 9) (u 10) (u 11) (u 12) (u 18) (u 19) (u 20) (u 21) (u 22) (u 23) (u 24) (u 25) (u 26) (u 1 0) (u 13 0) (u 14 0) (u 15 0) (u 16 0) (u 17 0) (u 27 0) (u 28 0) (u 29 0) (u 30 0) hV hi6 hl hP hD hS K
      · refine lv_tableIn (tgt := 1119) (off := 1086) hx hb dL_law_33 (by rw [iI_toInt hir, z9]; decide) (by rw [iI_toInt hir, z9]; decide) (by rw [iI_toInt hir, z9]; rfl) (by decide) ?_
        exact lc_31 hL hC (A 0) (A 1) (A 2) (A 3) (A 4) (A 5) (A 6) (A 7) (u 0) (u 2) (u 3) (u 4) (u 5) (u 6) (u 7) (u 8) (u 9) (u 10) (u 11) (u 12) (u 18) (u 19) (u 20) (u 21) (u 22) (u 23) (u 24) (u 25) (u 26) (u 1 0) (u 13 0) (u 14 0) (u 15 0) (u 16 0) (u 17 0) (u 27 0) (u 28 0) (u 29 0) (u 30 0) hV hi6 hl hP hD hS K
      · refine lv_tableIn (tgt := 1162) (off := 1129) hx hb dL_law_33 (by rw [iI_toInt hir, z9]; decide) (by rw [iI_toInt hir, z9]; decide) (by rw [iI_toInt hir, z9]; rfl) (by decide) ?_
        exact lc_32 hL hC (A 0) (A 1) (A 2) (A 3) (A 4) (A 5) (A 6) (A 7) (u 0) (u 2) (u 3) (u 4) (u 5) (u 6) (u 7) (u 8) (u 9) (u 10) (u 11) (u 12) (u 18) (u 19) (u 20) (u 21) (u 22) (u 23) (u 24) (u 25) (u 26) (u 1 0) (u 13 0) (u 14 0) (u 15 0) (u 16 0) (u 17 0) (u 27 0) (u 28 0) (u 29 0) (u 30 0) hV hi6 hl hP hD hS K
      · refine lv_tableIn (tgt := 1236) (off := 1203) hx hb dL_law_33 (by rw [iI_toInt hir, z9]; decide) (by rw [iI_toInt hir, z9]; decide) (by rw [iI_toInt hir, z9]; rfl) (by decide) ?_
        exact lc_33 hL hC (A 0) (A 1) (A 2) (A 3) (A 4) (A 5) (A 6) (A 7) (u 0) (u 2) (u 3) (u 4) (u 5) (u 6) (u 7) (u 8) (u 9) (u 10) (u 11) (u 12) (u 18) (u 19) (u 20) (u 21) (u 22) (u 23) (u 24) (u 25) (u 26) (u 1 0) (u 13 0) (u 14 0) (u 15 0) (u 16 0) (u 17 0) (u 27 0) (u 28 0) (u 29 0) (u 30 0) hV hi6 hl hP hD hS K
      · refine lv_tableIn (tgt := 1299) (off := 1266) hx hb dL_law_33 (by rw [iI_toInt hir, z9]; decide) (by rw [iI_toInt hir, z9]; decide) (by rw [iI_toInt hir, z9]; rfl) (by decide) ?_
        exact lc_34 hL hC (A 0) (A 1) (A 2) (A 3) (A 4) (A 5) (A 6) (A 7) (u 0) (u 2) (u 3) (u 4) (u 5) (u 6) (u 7) (u 8) (u 9) (u 10) (u 11) (u 12) (u 18) (u 19) (u 20) (u 21) (u 22) (u 23) (u 24) (u 25) (u 26) (u 1 0) (u 13 0) (u 14 0) (u 15 0) (u 16 0) (u 17 0) (u 27 0) (u 28 0) (u 29 0) (u 30 0) hV hi6 hl hP hD hS K
      · refine lv_tableIn (tgt := 1322) (off := 1289) hx hb dL_law_33 (by rw [iI_toInt hir, z9]; decide) (by rw [iI_toInt hir, z9]; decide) (by rw [iI_toInt hir, z9]; rfl) (by decide) ?_
        exact lc_35 hL hC (A 0) (A 1) (A 2) (A 3) (A 4) (A 5) (A 6) (A 7) (u 0) (u 2) (u 3) (u 4) (u 5) (u 6) (u 7) (u 8) (u 9) (u 10) (u 11) (u 12) (u 18) (u 19) (u 20) (u 21) (u 22) (u 23) (u 24) (u 25) (u 26) (u 1 0) (u 13 0) (u 14 0) (u 15 0) (u 16 0) (u 17 0) (u 27 0) (u 28 0) (u 29 0) (u 30 0) hV hi6 hl hP hD hS K
      · refine lv_tableIn (tgt := 1355) (off := 1322) hx hb dL_law_33 (by rw [iI_toInt hir, z9]; decide) (by rw [iI_toInt hir, z9]; decide) (by rw [iI_toInt hir, z9]; rfl) (by decide) ?_
        exact lc_36 hL hC (A 0) (A 1) (A 2) (A 3) (A 4) (A 5) (A 6) (A 7) (u 0) (u 2) (u 3) (u 4) (u 5) (u 6) (u 7) (u 8) (u 9) (u 10) (u 11) (u 12) (u 18) (u 19) (u 20) (u 21) (u 22) (u 23) (u 24) (u 25) (u 26) (u 1 0) (u 13 0) (u 14 0) (u 15 0) (u 16 0) (u 17 0) (u 27 0) (u 28 0) (u 29 0) (u 30 0) hV hi6 hl hP hD hS K
      · refine lv_tableIn (tgt := 1388) (off := 1355) hx hb dL_law_33 (by rw [iI_toInt hir, z9]; decide) (by rw [iI_toInt hir, z9]; decide) (by rw [iI_toInt hir, z9]; rfl) (by decide) ?_
        exact lc_37 hL hC (A 0) (A 1) (A 2) (A 3) (A 4) (A 5) (A 6) (A 7) (u 0) (u 2) (u 3) (u 4) (u 5) (u 6) (u 7) (u 8) (u 9) (u 10) (u 11) (u 12) (u 18) (u 19) (u 20) (u 21) (u 22) (u 23) (u 24) (u 25) (u 26) (u 1 0) (u 13 0) (u 14 0) (u 15 0) (u 16 0) (u 17 0) (u 27 0) (u 28 0) (u 29 0) (u 30 0) hV hi6 hl hP hD hS K
      · refine lv_tableIn (tgt := 1401) (off := 1368) hx hb dL_law_33 (by rw [iI_toInt hir, z9]; decide) (by rw [iI_toInt hir, z9]; decide) (by rw [iI_toInt hir, z9]; rfl) (by decide) ?_
        exact lc_38 hL hC (A 0) (A 1) (A 2) (A 3) (A 4) (A 5) (A 6) (A 7) (u 0) (u 2) (u 3) (u 4) (u 5) (u 6) (u 7) (u 8) (u 9) (u 10) (u 11) (u 12) (u 18) (u 19) (u 20) (u 21) (u 22) (u 23) (u 24) (u 25) (u 26) (u 1 0) (u 13 0) (u 14 0) (u 15 0) (u 16 0) (u 17 0) (u 27 0) (u 28 0) (u 29 0) (u 30 0) hV hi6 hl hP hD hS K
      · refine lv_tableIn (tgt := 1414) (off := 1381) hx hb dL_law_33 (by rw [iI_toInt hir, z9]; decide) (by rw [iI_toInt hir, z9]; decide) (by rw [iI_toInt hir, z9]; rfl) (by decide) ?_
        exact lc_39 hL hC (A 0) (A 1) (A 2) (A 3) (A 4) (A 5) (A 6) (A 7) (u 0) (u 2) (u 3) (u 4) (u 5) (u 6) (u 7) (u 8) (u 9) (u 10) (u 11) (u 12) (u 18) (u 19) (u 20) (u 21) (u 22) (u 23) (u 24) (u 25) (u 26) (u 1 0) (u 13 0) (u 14 0) (u 15 0) (u 16 0) (u 17 0) (u 27 0) (u 28 0) (u 29 0) (u 30 0) hV hi6 hl hP hD hS K
      · refine lv_tableIn (tgt := 1427) (off := 1394) hx hb dL_law_33 (by rw [iI_toInt hir, z9]; decide) (by rw [iI_toInt hir, z9]; decide) (by rw [iI_toInt hir, z9]; rfl) (by decide) ?_
        exact lc_40 hL hC (A 0) (A 1) (A 2) (A 3) (A 4) (A 5) (A 6) (A 7) (u 0) (u 2) (u 3) (u 4) (u 5) (u 6) (u 7) (u 8) (u 9) (u 10) (u 11) (u 12) (u 18) (u 19) (u 20) (u 21) (u 22) (u 23) (u 24) (u 25) (u 26) (u 1 0) (u 13 0) (u 14 0) (u 15 0) (u 16 0) (u 17 0) (u 27 0) (u 28 0) (u 29 0) (u 30 0) hV hi6 hl hP hD hS K
      · refine lv_tableIn (tgt := 1450) (off := 1417) hx hb dL_law_33 (by rw [iI_toInt hir, z9]; decide) (by rw [iI_toInt hir, z9]; decide) (by rw [iI_toInt hir, z9]; rfl) (by decide) ?_
        exact lc_41 hL hC (A 0) (A 1) (A 2) (A 3) (A 4) (A 5) (A 6) (A 7) (u 0) (u 2) (u 3) (u 4) (u 5) (u 6) (u 7) (u 8) (u 9) (u 10) (u 11) (u 12) (u 18) (u 19) (u 20) (u 21) (u 22) (u 23) (u 24) (u 25) (u 26) (u 1 0) (u 13 0) (u 14 0) (u 15 0) (u 16 0) (u 17 0) (u 27 0) (u 28 0) (u 29 0) (u 30 0) hV hi6 hl hP hD hS K
      · refine lv_tableOut (tgt := 1473) hx hb dL_law_33 (by rw [iI_toInt hir]; exact z9) (by decide) ?_
        exact K u H locs hV hP hD hS
