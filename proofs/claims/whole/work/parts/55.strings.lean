theorem my_J0_coder_7d493 : Cond.instanceMethod yJ0_coder_7d493 ∈ T0 ∧ Cond.selects yJ0_coder_7d493.cls yJ0_coder_7d493 yJ0_coder_7d493 ∈ T0 ∧ Cond.initialized yJ0_coder_7d493.cls ∈ T0 ∧ Cond.code yJ0_coder_7d493 cJ0_coder_7d493 1 (some .byte) ∈ T0 ∧ (yJ0_coder_7d493.cls ≠ "java/lang/invoke/MethodHandle" ∧ yJ0_coder_7d493.cls ≠ "java/lang/invoke/VarHandle") ∧ (parseMethodDescriptor yJ0_coder_7d493.desc).map (fun d => d.parameters.length) = some 0 := ⟨tm (List.mem_append_right _ (mT (List.mem_append_right _ (List.mem_append_right _ (List.mem_append_left _ (List.mem_of_getElem? (i := 124) (by decide +kernel))))))) (by decide +kernel), tm (List.mem_append_right _ (mT (List.mem_append_right _ (List.mem_append_right _ (List.mem_append_left _ (List.mem_of_getElem? (i := 125) (by decide +kernel))))))) (by decide +kernel), tm (List.mem_append_right _ (mT (List.mem_append_left _ (List.mem_of_getElem? (i := 10) (by decide +kernel))))) (by decide +kernel), tm (List.mem_append_right _ (mT (List.mem_append_right _ (List.mem_append_right _ (List.mem_append_left _ (List.mem_of_getElem? (i := 126) rfl)))))) rfl, ⟨by decide +kernel, by decide +kernel⟩, by decide +kernel⟩
theorem lk_J0_335 : LkV RJ0 335 yJ0_coder_7d493 cJ0_coder_7d493 1 (some .byte) 0 := ⟨tm (List.mem_append_right _ (mT (List.mem_append_right _ (List.mem_append_right _ (List.mem_append_left _ (List.mem_of_getElem? (i := 123) (by decide +kernel))))))) (by decide +kernel), my_J0_coder_7d493⟩
theorem my_J0_isLatin1_aae02 : Cond.instanceMethod yJ0_isLatin1_aae02 ∈ T0 ∧ Cond.selects yJ0_isLatin1_aae02.cls yJ0_isLatin1_aae02 yJ0_isLatin1_aae02 ∈ T0 ∧ Cond.initialized yJ0_isLatin1_aae02.cls ∈ T0 ∧ Cond.code yJ0_isLatin1_aae02 cJ0_isLatin1_aae02 1 (some .boolean) ∈ T0 ∧ (yJ0_isLatin1_aae02.cls ≠ "java/lang/invoke/MethodHandle" ∧ yJ0_isLatin1_aae02.cls ≠ "java/lang/invoke/VarHandle") ∧ (parseMethodDescriptor yJ0_isLatin1_aae02.desc).map (fun d => d.parameters.length) = some 0 := ⟨tm (List.mem_append_right _ (mT (List.mem_append_right _ (List.mem_append_right _ (List.mem_append_left _ (List.mem_of_getElem? (i := 134) (by decide +kernel))))))) (by decide +kernel), tm (List.mem_append_right _ (mT (List.mem_append_right _ (List.mem_append_right _ (List.mem_append_left _ (List.mem_of_getElem? (i := 135) (by decide +kernel))))))) (by decide +kernel), tm (List.mem_append_right _ (mT (List.mem_append_left _ (List.mem_of_getElem? (i := 10) (by decide +kernel))))) (by decide +kernel), tm (List.mem_append_right _ (mT (List.mem_append_right _ (List.mem_append_right _ (List.mem_append_left _ (List.mem_of_getElem? (i := 136) rfl)))))) rfl, ⟨by decide +kernel, by decide +kernel⟩, by decide +kernel⟩
theorem lk_J0_492 : LkV RJ0 492 yJ0_isLatin1_aae02 cJ0_isLatin1_aae02 1 (some .boolean) 0 := ⟨tm (List.mem_append_right _ (mT (List.mem_append_right _ (List.mem_append_right _ (List.mem_append_left _ (List.mem_of_getElem? (i := 133) (by decide +kernel))))))) (by decide +kernel), my_J0_isLatin1_aae02⟩
theorem my_J1_charAt_3b067 : Cond.static yJ1_charAt_3b067 ∈ T0 ∧ Cond.initialized yJ1_charAt_3b067.cls ∈ T0 ∧ Cond.code yJ1_charAt_3b067 cJ1_charAt_3b067 2 (some .char) ∈ T0 ∧ (yJ1_charAt_3b067.cls ≠ "java/lang/invoke/MethodHandle" ∧ yJ1_charAt_3b067.cls ≠ "java/lang/invoke/VarHandle") ∧ (parseMethodDescriptor yJ1_charAt_3b067.desc).map (fun d => d.parameters.length) = some 2 := ⟨tm (List.mem_append_right _ (mT (List.mem_append_right _ (List.mem_append_right _ (List.mem_append_left _ (List.mem_of_getElem? (i := 138) (by decide +kernel))))))) (by decide +kernel), tm (List.mem_append_right _ (mT (List.mem_append_left _ (List.mem_of_getElem? (i := 11) (by decide +kernel))))) (by decide +kernel), tm (List.mem_append_right _ (mT (List.mem_append_right _ (List.mem_append_right _ (List.mem_append_left _ (List.mem_of_getElem? (i := 139) rfl)))))) rfl, ⟨by decide +kernel, by decide +kernel⟩, by decide +kernel⟩
theorem lk_J0_495 : LkS RJ0 495 yJ1_charAt_3b067 cJ1_charAt_3b067 2 (some .char) 2 := ⟨tm (List.mem_append_right _ (mT (List.mem_append_right _ (List.mem_append_right _ (List.mem_append_left _ (List.mem_of_getElem? (i := 137) (by decide +kernel))))))) (by decide +kernel), my_J1_charAt_3b067⟩
theorem my_J0_checkIndex_df160 : Cond.static yJ0_checkIndex_df160 ∈ T0 ∧ Cond.initialized yJ0_checkIndex_df160.cls ∈ T0 ∧ Cond.code yJ0_checkIndex_df160 cJ0_checkIndex_df160 2 none ∈ T0 ∧ (yJ0_checkIndex_df160.cls ≠ "java/lang/invoke/MethodHandle" ∧ yJ0_checkIndex_df160.cls ≠ "java/lang/invoke/VarHandle") ∧ (parseMethodDescriptor yJ0_checkIndex_df160.desc).map (fun d => d.parameters.length) = some 2 := ⟨tm (List.mem_append_right _ (mT (List.mem_append_right _ (List.mem_append_right _ (List.mem_append_left _ (List.mem_of_getElem? (i := 141) (by decide +kernel))))))) (by decide +kernel), tm (List.mem_append_right _ (mT (List.mem_append_left _ (List.mem_of_getElem? (i := 10) (by decide +kernel))))) (by decide +kernel), tm (List.mem_append_right _ (mT (List.mem_append_right _ (List.mem_append_right _ (List.mem_append_left _ (List.mem_of_getElem? (i := 142) rfl)))))) rfl, ⟨by decide +kernel, by decide +kernel⟩, by decide +kernel⟩
theorem lk_J1_9 : LkS RJ1 9 yJ0_checkIndex_df160 cJ0_checkIndex_df160 2 none 2 := ⟨tm (List.mem_append_right _ (mT (List.mem_append_right _ (List.mem_append_right _ (List.mem_append_left _ (List.mem_of_getElem? (i := 140) (by decide +kernel))))))) (by decide +kernel), my_J0_checkIndex_df160⟩
theorem my_J3_checkIndex_8e157 : Cond.static yJ3_checkIndex_8e157 ∈ T0 ∧ Cond.initialized yJ3_checkIndex_8e157.cls ∈ T0 ∧ Cond.code yJ3_checkIndex_8e157 cJ3_checkIndex_8e157 3 (some .int) ∈ T0 ∧ (yJ3_checkIndex_8e157.cls ≠ "java/lang/invoke/MethodHandle" ∧ yJ3_checkIndex_8e157.cls ≠ "java/lang/invoke/VarHandle") ∧ (parseMethodDescriptor yJ3_checkIndex_8e157.desc).map (fun d => d.parameters.length) = some 3 := ⟨tm (List.mem_append_right _ (mT (List.mem_append_right _ (List.mem_append_right _ (List.mem_append_left _ (List.mem_of_getElem? (i := 146) (by decide +kernel))))))) (by decide +kernel), tm (List.mem_append_right _ (mT (List.mem_append_left _ (List.mem_of_getElem? (i := 12) (by decide +kernel))))) (by decide +kernel), tm (List.mem_append_right _ (mT (List.mem_append_right _ (List.mem_append_right _ (List.mem_append_left _ (List.mem_of_getElem? (i := 147) rfl)))))) rfl, ⟨by decide +kernel, by decide +kernel⟩, by decide +kernel⟩
theorem lk_J0_1059 : LkS RJ0 1059 yJ3_checkIndex_8e157 cJ3_checkIndex_8e157 3 (some .int) 3 := ⟨tm (List.mem_append_right _ (mT (List.mem_append_right _ (List.mem_append_right _ (List.mem_append_left _ (List.mem_of_getElem? (i := 145) (by decide +kernel))))))) (by decide +kernel), my_J3_checkIndex_8e157⟩
theorem fk_J0_38 : Cond.fieldLink RJ0 38 "java/lang/String" "COMPACT_STRINGS" "Z" ∈ T0 := tm (List.mem_append_right _ (mT (List.mem_append_right _ (List.mem_append_right _ (List.mem_append_left _ (List.mem_of_getElem? (i := 127) (by decide +kernel))))))) (by decide +kernel)
theorem fk_J0_1053 : Cond.fieldLink RJ0 1053 "jdk/internal/util/Preconditions" "SIOOBE_FORMATTER" "Ljava/util/function/BiFunction;" ∈ T0 := tm (List.mem_append_right _ (mT (List.mem_append_right _ (List.mem_append_right _ (List.mem_append_left _ (List.mem_of_getElem? (i := 143) (by decide +kernel))))))) (by decide +kernel)
theorem fk_J0_9 : Cond.fieldLink RJ0 9 "java/lang/String" "value" "[B" ∈ T0 := tm (List.mem_append_right _ (mT (List.mem_append_right _ (List.mem_append_right _ (List.mem_append_right _ (List.mem_append_right _ (List.mem_append_right _ (List.mem_of_getElem? (i := 101) (by decide +kernel))))))))) (by decide +kernel)
theorem fk_J0_15 : Cond.fieldLink RJ0 15 "java/lang/String" "coder" "B" ∈ T0 := tm (List.mem_append_right _ (mT (List.mem_append_right _ (List.mem_append_right _ (List.mem_append_right _ (List.mem_append_right _ (List.mem_append_right _ (List.mem_of_getElem? (i := 102) (by decide +kernel))))))))) (by decide +kernel)
theorem sr_0 : Cond.stringRef RX3 35 "pass" ∈ tables_1 := mT (List.mem_append_right _ (List.mem_append_right _ (List.mem_append_left _ (List.mem_of_getElem? (i := 114) (by decide +kernel)))))
theorem sr_1 : Cond.stringRef RX3 44 "free" ∈ tables_1 := mT (List.mem_append_right _ (List.mem_append_right _ (List.mem_append_left _ (List.mem_of_getElem? (i := 181) (by decide +kernel)))))
theorem sr_2 : Cond.stringRef RX3 49 "village" ∈ tables_1 := mT (List.mem_append_right _ (List.mem_append_right _ (List.mem_append_left _ (List.mem_of_getElem? (i := 186) (by decide +kernel)))))
theorem sr_3 : Cond.stringRef RX3 54 "order" ∈ tables_1 := mT (List.mem_append_right _ (List.mem_append_right _ (List.mem_append_left _ (List.mem_of_getElem? (i := 192) (by decide +kernel)))))
theorem sr_4 : Cond.stringRef RX3 72 "at" ∈ tables_1 := mT (List.mem_append_right _ (List.mem_append_right _ (List.mem_append_left _ (List.mem_of_getElem? (i := 215) (by decide +kernel)))))
theorem sr_5 : Cond.stringRef RX3 88 "haste" ∈ tables_1 := mT (List.mem_append_right _ (List.mem_append_right _ (List.mem_append_left _ (List.mem_of_getElem? (i := 217) (by decide +kernel)))))
theorem sr_6 : Cond.stringRef RX3 104 "less" ∈ tables_1 := mT (List.mem_append_right _ (List.mem_append_right _ (List.mem_append_left _ (List.mem_of_getElem? (i := 197) (by decide +kernel)))))
theorem sr_7 : Cond.stringRef RX3 126 "hill" ∈ tables_1 := mT (List.mem_append_right _ (List.mem_append_right _ (List.mem_append_left _ (List.mem_of_getElem? (i := 205) (by decide +kernel)))))
theorem sr_8 : Cond.stringRef RX3 128 "peak" ∈ tables_1 := mT (List.mem_append_right _ (List.mem_append_right _ (List.mem_append_left _ (List.mem_of_getElem? (i := 206) (by decide +kernel)))))
theorem sr_9 : Cond.stringRef RX3 130 "glacier" ∈ tables_1 := mT (List.mem_append_right _ (List.mem_append_right _ (List.mem_append_left _ (List.mem_of_getElem? (i := 207) (by decide +kernel)))))
theorem sr_10 : Cond.stringRef RX3 132 "moor" ∈ tables_1 := mT (List.mem_append_right _ (List.mem_append_right _ (List.mem_append_left _ (List.mem_of_getElem? (i := 208) (by decide +kernel)))))
theorem sr_11 : Cond.stringRef RX3 134 "twin" ∈ tables_1 := mT (List.mem_append_right _ (List.mem_append_right _ (List.mem_append_left _ (List.mem_of_getElem? (i := 209) (by decide +kernel)))))
theorem sr_12 : Cond.stringRef RX3 136 "range" ∈ tables_1 := mT (List.mem_append_right _ (List.mem_append_right _ (List.mem_append_left _ (List.mem_of_getElem? (i := 210) (by decide +kernel)))))
/-! the text's words: String constants -/
def sIx : List Nat := [35, 44, 49, 54, 72, 88, 104, 126, 128, 130, 132, 134, 136]
def sTx : List String := ["pass", "free", "village", "order", "at", "haste", "less", "hill", "peak", "glacier", "moor", "twin", "range"]
def sLen : List Nat := [4, 4, 7, 5, 2, 5, 4, 4, 4, 7, 4, 4, 5]
def sByt : List (List Int32) := [[112, 97, 115, 115], [102, 114, 101, 101], [118, 105, 108, 108, 97, 103, 101], [111, 114, 100, 101, 114], [97, 116], [104, 97, 115, 116, 101], [108, 101, 115, 115], [104, 105, 108, 108], [112, 101, 97, 107], [103, 108, 97, 99, 105, 101, 114], [109, 111, 111, 114], [116, 119, 105, 110], [114, 97, 110, 103, 101]]
def sHs : List Int := [525939, 215205, 23937287397, 16322738, 52, 8441477, 398963, 271756, 529451, 7920002226, 441842, 679214, 18921701]
/-- their letters -/
def sCh (i : Nat) : Int → Int := fun j => (((sByt.getD i []).getD j.toNat 0).toInt)
abbrev Sg : Type := (Nat → Nat) × (Nat → Nat)
def SB (σ : Sg) (A : Nat → Prop) (U : State) (H : Heap) : Prop := vk_S 13 sLen sByt σ.1 σ.2 A U H ∧ va_Z "java/lang/String" "COMPACT_STRINGS" "Z" (.int 1) A U H ∧ va_Zq "jdk/internal/util/Preconditions" "SIOOBE_FORMATTER" "Ljava/util/function/BiFunction;" A U H ∧ ∀ i, i < 13 → vk_R RX3 (sIx.getD i 0) (sTx.getD i "") (σ.1 i) U
theorem SB.call {σ : Sg} {A A2 : Nat → Prop} {s U : State} {H : Heap} {locs : List Loc} (h : SB σ A s s.heap) (hS : va_S A s.heap H locs) (hW : s.WarmedH U.vm) (hU : U.heap = H) (hA : ∀ q, A2 q → A q) : SB σ A2 U U.heap := by
  rw [hU]
  obtain ⟨h1, h2, h3, h4⟩ := h
  exact ⟨((h1.kept hS.2.1).moved hW.alike).narrow hA, ((h2.kept hS.2.1).moved hW.alike).narrow hA, ((h3.kept hS.2.1).moved hW.alike).narrow hA, fun i hi => (h4 i hi).warm hW⟩
theorem SB.calling {σ : Sg} {A : Nat → Prop} {U : State} {f : JFrame} {mk : MethodId} {a : Array Value} (h : SB σ A U U.heap) : SB σ A (U.calling f mk a) (U.calling f mk a).heap := by
  obtain ⟨h1, h2, h3, h4⟩ := h
  exact ⟨vk_S.moved (u := U) (U := U.calling f mk a) (Vm.Alike.refl U.vm) h1, va_Z.moved (u := U) (U := U.calling f mk a) (Vm.Alike.refl U.vm) h2, va_Zq.moved (u := U) (U := U.calling f mk a) (Vm.Alike.refl U.vm) h3, fun i hi => vk_R.same (u := U) rfl (h4 i hi)⟩
def PXs (g : Gd) (σ : Sg) (A : Nat → Prop) (P : Heap → Prop) (av : List Value) : Array Value → State → Prop := va_Pc av (fun U => KX g U ∧ (SB σ A U U.heap ∧ P U.heap))
theorem PXs.blind {g : Gd} {σ : Sg} {A : Nat → Prop} {P : Heap → Prop} {av : List Value} : FrameBlind (PXs g σ A P av) := fun a U f mk q => ⟨q.1, q.2.1.calling, q.2.2.1.calling, q.2.2.2⟩
def vp_S0 : Array Value → State → Outcome → State → Prop := fun _ st o t => o = .returned none ∧ t.heap = st.heap
section XW
variable {p : Program} {l : Launch} {e : Env} {R : Room} {s : State} {m : MethodId} {args : Array Value} {below : List Frame} {meth : Method} {c : Code} {H : Heap} {locs : List Loc} {cells slots : Nat} {Q : State → Prop} {cc : ByteArray} {pc : Nat} {ls : Array Slot} {rest st : List Value} {g : Gd}
  {y : MethodName} {c2 : ByteArray} {n nL k mc ms index : Nat} {r : Option FieldType} {rm : Room} {P : Heap → Prop} {av As : List Value} {Qc : Array Value → State → Outcome → State → Prop} {free : Addr → Prop} {own host : String} {lv : List (Nat × Value)} {b : Addr} {σ : Sg} {A0 A2 : Nat → Prop}
theorem xu_0 {a : Array Value} (run : va_Run p l e R s m args below meth c H locs cells slots 0 0 (F0 m pc ls st) rest (vp_S0 a) (fun _ => False)) (kk : W p l e R s m args below meth c H locs cells slots Q (F0 m (pc + 3) ls rest)) : W p l e R s m args below meth c H locs cells slots Q (F0 m pc ls st) := by
  intro T hT X
  obtain ⟨v9, st₀, t, T', L, h0, X', hL, e1, ⟨hv, hh⟩, st⟩ := run.run T hT X
  cases hv
  obtain ⟨t2, a1, b1⟩ := kk T' (by rw [e1, hh, h0]) (Stand.forget X' (fun q h => (hL q h).elim))
  exact ⟨t2, st t2 a1, b1⟩
theorem rSs (hx : p.tables.exec = Jvm.exec) (hb : c.code = cc) (hml : c.maxLocals = nL) (hown : s.vm.findClass own = some m.cls) (hts : ∀ w ∈ T0, w.before args s = true) (hK : KX g s) (hl : lv_has ls nL lv) (hSB : SB σ A0 s s.heap) (hS0 : va_S A0 s.heap H locs) (hA2 : ∀ q, A2 q → A0 q) (hM : Met l y (wsOf y c2 n r) rm (PXs g σ A2 P av) Qc mc ms free) (lk : LkS own index y c2 n r k) (hPH : P H) (hlen : av.length = k) (hst : st = av.reverse ++ rest) (hro : Nat.ble (rest.map fun v => v.category).sum 8 = true) (hrm : Rm rm R n cells slots) (hrc : rm.cells = mc) (hrs : rm.slots = ms) (d : decode cc pc = .ok (.invokestatic index, 3)) : va_Run p l e R s m args below meth c H locs cells slots mc ms (F0 m pc ls st) rest (Qc (av).toArray) free := by
  subst hrc hrs hst
  obtain ⟨k1, k2, k3, k4, k5, k6⟩ := lk
  exact va_runS (g := F0 m pc ls (av.reverse ++ rest)) (As := av) (rest := rest) (Ts := T0) ⟨hx, hb, hml, hown, hts⟩ hM ⟨callB_of k hts (gT k4 (fun _ h => h)) rfl rfl rfl (hts _ k3) (hts _ k1) ⟨k5.1, k5.2, k6⟩ ⟨hrm.1, hrm.2.1⟩, hts _ k2⟩ ⟨PXs.blind, fun U hU hW => ⟨rfl, hK.warm hW, hSB.call hS0 hW hU hA2, by rw [hU]; exact hPH⟩⟩ rfl hlen hl.1 rfl (lv_room (Nat.le_of_ble_eq_true hro)) d ⟨hrm.2.2.1, hrm.2.2.2⟩
theorem rVs (hx : p.tables.exec = Jvm.exec) (hb : c.code = cc) (hml : c.maxLocals = nL) (hown : s.vm.findClass own = some m.cls) (hts : ∀ w ∈ T0, w.before args s = true) (hK : KX g s) (hl : lv_has ls nL lv) (hSB : SB σ A0 s s.heap) (hS0 : va_S A0 s.heap H locs) (hA2 : ∀ q, A2 q → A0 q) (hM : Met l y (wsOf y c2 n r) rm (PXs g σ A2 P (.ref b :: As)) Qc mc ms free) (lk : LkV own index y c2 n r k) (hPH : P H) (hrv : ∃ cellB : Cell, H[b]? = some cellB ∧ cellB.vm.isStatics = false ∧ s.vm.findClass y.cls = some cellB.cls) (hlen : As.length = k) (hst : st = As.reverse ++ .ref b :: rest) (hro : Nat.ble (rest.map fun v => v.category).sum 8 = true) (hrm : Rm rm R n cells slots) (hrc : rm.cells = mc) (hrs : rm.slots = ms) (d : decode cc pc = .ok (.invokevirtual index, 3)) : va_Run p l e R s m args below meth c H locs cells slots mc ms (F0 m pc ls st) rest (Qc (.ref b :: As).toArray) free := by
  subst hrc hrs hst
  obtain ⟨k1, k2, k7, k3, k4, k5, k6⟩ := lk
  exact va_runV (g := F0 m pc ls (As.reverse ++ .ref b :: rest)) (C := y.cls) (As := As) (rest := rest) (Ts := T0) ⟨hx, hb, hml, hown, hts⟩ hM ⟨callB_of k hts (gT k4 (fun _ h => h)) rfl rfl rfl (hts _ k3) (hts _ k1) ⟨k5.1, k5.2, k6⟩ ⟨hrm.1, hrm.2.1⟩, hts _ k2, hts _ k7⟩ ⟨PXs.blind, hrv, fun U hU hW => ⟨rfl, hK.warm hW, hSB.call hS0 hW hU hA2, by rw [hU]; exact hPH⟩⟩ rfl hlen hl.1 rfl (lv_room (Nat.le_of_ble_eq_true hro)) d ⟨hrm.2.2.1, hrm.2.2.2⟩
theorem rVNs (hx : p.tables.exec = Jvm.exec) (hb : c.code = cc) (hml : c.maxLocals = nL) (hown : s.vm.findClass own = some m.cls) (hts : ∀ w ∈ T0, w.before args s = true) (hK : KX g s) (hl : lv_has ls nL lv) (hSB : SB σ A0 s s.heap) (hS0 : va_S A0 s.heap H locs) (hA2 : ∀ q, A2 q → A0 q) (hM : Met l y (wsOf y c2 n r) rm (PXs g σ A2 P (.ref b :: As)) Qc mc ms free) (lk : LkVN own index host y c2 n r k) (hPH : P H) (hrv : ∃ cellB : Cell, H[b]? = some cellB ∧ cellB.vm.isStatics = false ∧ s.vm.findClass y.cls = some cellB.cls) (hlen : As.length = k) (hst : st = As.reverse ++ .ref b :: rest) (hro : Nat.ble (rest.map fun v => v.category).sum 8 = true) (hrm : Rm rm R n cells slots) (hrc : rm.cells = mc) (hrs : rm.slots = ms) (d : decode cc pc = .ok (.invokevirtual index, 3)) : va_Run p l e R s m args below meth c H locs cells slots mc ms (F0 m pc ls st) rest (Qc (.ref b :: As).toArray) free := by
  subst hrc hrs hst
  obtain ⟨k1, k2, k7, k3, k4, k5, k6⟩ := lk
  exact va_runVN (g := F0 m pc ls (As.reverse ++ .ref b :: rest)) (C := y.cls) (As := As) (rest := rest) (Ts := T0) ⟨hx, hb, hml, hown, hts⟩ hM ⟨va_cnB k hts (gT k4 (fun _ h => h)) rfl rfl rfl (hK.2 _ k1) (hts _ k3) ⟨k5.1, k5.2, k6⟩ ⟨hrm.1, hrm.2.1⟩, hts _ k2, hts _ k7⟩ ⟨PXs.blind, hrv, fun U hU hW => ⟨rfl, hK.warm hW, hSB.call hS0 hW hU hA2, by rw [hU]; exact hPH⟩⟩ rfl hlen hl.1 rfl (lv_room (Nat.le_of_ble_eq_true hro)) d ⟨hrm.2.2.1, hrm.2.2.2⟩
theorem sb_recv (hSB : SB σ A0 s s.heap) {i : Nat} (hi : i < 13) (hS : va_S A0 s.heap H locs) : ∃ cell : Cell, H[σ.1 i]? = some cell ∧ cell.vm.isStatics = false ∧ s.vm.findClass "java/lang/String" = some cell.cls := vk_recv hSB.1 hi hS
end XW
theorem sl_shr : ∀ i : Nat, i < 13 → Int32.ofNat (sLen.getD i 0) >>> ((iI 0) &&& 31) = iI ((sLen.getD i 0 : Nat) : Int) := by decide +kernel
theorem sl_b : ∀ i : Nat, i < 13 → 1 ≤ sLen.getD i 0 ∧ sLen.getD i 0 ≤ 7 := by decide +kernel
theorem sc_b : ∀ i : Nat, i < 13 → ∀ j : Nat, j < 7 → ((((((sByt.getD i []).getD j 0) &&& iI 255).toUInt32 % 65536).toInt32 = iI (sCh i (j : Int))) ∧ narrow .char (.int (iI (sCh i (j : Int)))) = .int (iI (sCh i (j : Int))) ∧ (j < sLen.getD i 0 → 97 ≤ sCh i (j : Int) ∧ sCh i (j : Int) ≤ 122)) := by decide +kernel
theorem sh_ok : ∀ i : Nat, i < 13 → wvT (sCh i) 0 (sLen.getD i 0) = sHs.getD i 0 ∧ 1 ≤ sHs.getD i 0 ∧ sHs.getD i 0 ≤ 36028797018963967 := by decide +kernel
abbrev rm_J0_coder_7d493 : Room := { frames := 0, cells := 0, slots := 0, locals := 0 }
set_option maxRecDepth 100000 in
set_option maxHeartbeats 4000000 in
theorem c_J0_coder_7d493 (l : Launch) (g : Gd) (σ : Sg) {i : Nat} (hi : i < 13) : Met l yJ0_coder_7d493 (wsOf yJ0_coder_7d493 cJ0_coder_7d493 1 (some .byte)) rm_J0_coder_7d493 (PXs g σ (fun _ => False) (fun _ => True) [.ref (σ.1 i)]) (vp_Si (fun r => r = iI 0)) 0 0 (fun _ => False) := by
  refine me (g := g) (by decide) rfl ?_
  intro pq eq s mq below meth cq C hnm hB ls hl
  obtain ⟨hx, hb, hr, hml, hown, hts, hlocks, hK⟩ := C
  obtain ⟨hSB, -⟩ := hB
  have hSf : va_S (fun _ => False) s.heap s.heap [] := va_S.rf
  have hown : s.vm.findClass RJ0 = some mq.cls := hown
  have hl : lv_has ls 1 [(0, .ref (σ.1 i))] := hl
  refine va_gets (C := "java/lang/String") (n := "COMPACT_STRINGS") (d := "Z") (ref := "java/lang/String") hx hb hSB.2.1 hSf hown (hts _ fk_J0_38) (fun x h => h) dJ0_coder_7d493_0 ?_
  refine lv_if_eq (tgt := 13) hx hb dJ0_coder_7d493_3 (by decide) (fun z => absurd z (by decide)) (fun z => ?_)
  refine lv_aload_n hx hb dJ0_coder_7d493_6 rfl (lv_at hl 0 rfl) ?_
  refine vk_getf (o := "java/lang/String") (n := "coder") (d := "B") (ref := "java/lang/String") hx hb (hSB.1.1 i hi).2.1 hSf hown (hts _ fk_J0_15) (fun x h => h) dJ0_coder_7d493_7 ?_
  refine lv_goto (tgt := 14) hx hb dJ0_coder_7d493_10 (by decide) ?_
  exact W.zret hx hb hr (by decide) (fun t ht hW => ⟨_, rfl, rfl, ht⟩) (fun q h => by cases h) dJ0_coder_7d493_14
abbrev rm_J0_isLatin1_aae02 : Room := { frames := 0, cells := 0, slots := 0, locals := 0 }
set_option maxRecDepth 100000 in
set_option maxHeartbeats 4000000 in
theorem c_J0_isLatin1_aae02 (l : Launch) (g : Gd) (σ : Sg) {i : Nat} (hi : i < 13) : Met l yJ0_isLatin1_aae02 (wsOf yJ0_isLatin1_aae02 cJ0_isLatin1_aae02 1 (some .boolean)) rm_J0_isLatin1_aae02 (PXs g σ (fun _ => False) (fun _ => True) [.ref (σ.1 i)]) (vp_Si (fun r => r = iI 1)) 0 0 (fun _ => False) := by
  refine me (g := g) (by decide) rfl ?_
  intro pq eq s mq below meth cq C hnm hB ls hl
  obtain ⟨hx, hb, hr, hml, hown, hts, hlocks, hK⟩ := C
  obtain ⟨hSB, -⟩ := hB
  have hSf : va_S (fun _ => False) s.heap s.heap [] := va_S.rf
  have hown : s.vm.findClass RJ0 = some mq.cls := hown
  have hl : lv_has ls 1 [(0, .ref (σ.1 i))] := hl
  refine va_gets (C := "java/lang/String") (n := "COMPACT_STRINGS") (d := "Z") (ref := "java/lang/String") hx hb hSB.2.1 hSf hown (hts _ fk_J0_38) (fun x h => h) dJ0_isLatin1_aae02_0 ?_
  refine lv_if_eq (tgt := 17) hx hb dJ0_isLatin1_aae02_3 (by decide) (fun z => absurd z (by decide)) (fun z => ?_)
  refine lv_aload_n hx hb dJ0_isLatin1_aae02_6 rfl (lv_at hl 0 rfl) ?_
  refine vk_getf (o := "java/lang/String") (n := "coder") (d := "B") (ref := "java/lang/String") hx hb (hSB.1.1 i hi).2.1 hSf hown (hts _ fk_J0_15) (fun x h => h) dJ0_isLatin1_aae02_7 ?_
  refine lv_if_ne (tgt := 17) hx hb dJ0_isLatin1_aae02_10 (by decide) (fun z => absurd rfl z) (fun z => ?_)
  refine lv_iconst (v := iI (1)) hx hb dJ0_isLatin1_aae02_13 (by decide) ?_
  refine lv_goto (tgt := 18) hx hb dJ0_isLatin1_aae02_14 (by decide) ?_
  exact W.zret hx hb hr (by decide) (fun t ht hW => ⟨_, rfl, rfl, ht⟩) (fun q h => by cases h) dJ0_isLatin1_aae02_18
abbrev rm_J0_length_8abf5 : Room := { frames := 1, cells := 0, slots := 0, locals := 20 }
set_option maxRecDepth 100000 in
set_option maxHeartbeats 4000000 in
theorem c_J0_length_8abf5 (l : Launch) (g : Gd) (σ : Sg) {i : Nat} (hi : i < 13) : Met l yJ0_length_8abf5 (wsOf yJ0_length_8abf5 cJ0_length_8abf5 1 (some .int)) rm_J0_length_8abf5 (PXs g σ (fun _ => False) (fun _ => True) [.ref (σ.1 i)]) (vp_Si (fun r => r = iI ((sLen.getD i 0 : Nat) : Int))) 0 0 (fun _ => False) := by
  refine me (g := g) (by decide) rfl ?_
  intro pq eq s mq below meth cq C hnm hB ls hl
  obtain ⟨hx, hb, hr, hml, hown, hts, hlocks, hK⟩ := C
  obtain ⟨hSB, -⟩ := hB
  have hSf : va_S (fun _ => False) s.heap s.heap [] := va_S.rf
  have hown : s.vm.findClass RJ0 = some mq.cls := hown
  have hl : lv_has ls 1 [(0, .ref (σ.1 i))] := hl
  refine lv_aload_n hx hb dJ0_length_8abf5_0 rfl (lv_at hl 0 rfl) ?_
  refine vk_getf (o := "java/lang/String") (n := "value") (d := "[B") (ref := "java/lang/String") hx hb (hSB.1.1 i hi).2.2.1 hSf hown (hts _ fk_J0_9) (fun x h => h) dJ0_length_8abf5_1 ?_
  refine va_tlen hx hb (hSB.1.1 i hi).2.2.2 hSf (v := Int32.ofNat (sLen.getD i 0)) rfl dJ0_length_8abf5_4 ?_
  refine lv_aload_n hx hb dJ0_length_8abf5_5 rfl (lv_at hl 0 rfl) ?_
  refine xu_i (x := iI 0) (rVs (rest := [.int (Int32.ofNat (sLen.getD i 0))]) hx hb hml hown hts hK hl hSB hSf (fun _ h => h) (c_J0_coder_7d493 l g σ hi) lk_J0_335 trivial (sb_recv hSB hi hSf) rfl rfl rfl (Rm.of rfl) rfl rfl dJ0_length_8abf5_6) ?_
  refine lv_ishr hx hb dJ0_length_8abf5_9 ?_
  exact W.iret hx hb hr (fun t ht hW => ⟨_, rfl, sl_shr i hi, ht⟩) (fun q h => by cases h) dJ0_length_8abf5_10
abbrev rm_J3_checkIndex_8e157 : Room := { frames := 0, cells := 0, slots := 0, locals := 0 }
set_option maxRecDepth 100000 in
set_option maxHeartbeats 4000000 in
theorem c_J3_checkIndex_8e157N (l : Launch) (g : Gd) (σ : Sg) {k n : Int} (h : 0 ≤ k ∧ k < n ∧ n ≤ 1000) : Met l yJ3_checkIndex_8e157 (wsOf yJ3_checkIndex_8e157 cJ3_checkIndex_8e157 3 (some .int)) rm_J3_checkIndex_8e157 (PXs g σ (fun _ => False) (fun _ => True) [.int (iI k), .int (iI n), .null]) (vp_Si (fun r => r = iI k)) 0 0 (fun _ => False) := by
  refine me (g := g) (by decide) rfl ?_
  intro pq eq s mq below meth cq C hnm hB ls hl
  obtain ⟨hx, hb, hr, hml, hown, hts, hlocks, hK⟩ := C
  obtain ⟨hSB, -⟩ := hB
  have hSf : va_S (fun _ => False) s.heap s.heap [] := va_S.rf
  have hl : lv_has ls 3 [(0, .int (iI k)), (1, .int (iI n)), (2, .null)] := hl
  refine lv_iload_n hx hb dJ3_checkIndex_8e157_0 rfl (lv_at hl 0 rfl) ?_
  refine xi_z_lt (tgt := 9) hx hb ⟨by omega, by omega⟩ dJ3_checkIndex_8e157_1 (by decide) (fun z => ?_) (fun z => ?_)
  · exfalso; omega
  · refine lv_iload_n hx hb dJ3_checkIndex_8e157_4 rfl (lv_at hl 0 rfl) ?_
    refine lv_iload_n hx hb dJ3_checkIndex_8e157_5 rfl (lv_at hl 1 rfl) ?_
    refine xi_c_lt (tgt := 16) hx hb ⟨by omega, by omega⟩ ⟨by omega, by omega⟩ dJ3_checkIndex_8e157_6 (by decide) (fun z => ?_) (fun z => ?_)
    · refine lv_iload_n hx hb dJ3_checkIndex_8e157_16 rfl (lv_at hl 0 rfl) ?_
      exact W.iret hx hb hr (fun t ht hW => ⟨_, rfl, rfl, ht⟩) (fun q h => by cases h) dJ3_checkIndex_8e157_17
    · exfalso; omega
set_option maxRecDepth 100000 in
set_option maxHeartbeats 4000000 in
theorem c_J3_checkIndex_8e157R (l : Launch) (g : Gd) (σ : Sg) (t : Nat) {k n : Int} (h : 0 ≤ k ∧ k < n ∧ n ≤ 1000) : Met l yJ3_checkIndex_8e157 (wsOf yJ3_checkIndex_8e157 cJ3_checkIndex_8e157 3 (some .int)) rm_J3_checkIndex_8e157 (PXs g σ (fun _ => False) (fun _ => True) [.int (iI k), .int (iI n), .ref t]) (vp_Si (fun r => r = iI k)) 0 0 (fun _ => False) := by
  refine me (g := g) (by decide) rfl ?_
  intro pq eq s mq below meth cq C hnm hB ls hl
  obtain ⟨hx, hb, hr, hml, hown, hts, hlocks, hK⟩ := C
  obtain ⟨hSB, -⟩ := hB
  have hSf : va_S (fun _ => False) s.heap s.heap [] := va_S.rf
  have hl : lv_has ls 3 [(0, .int (iI k)), (1, .int (iI n)), (2, .ref t)] := hl
  refine lv_iload_n hx hb dJ3_checkIndex_8e157_0 rfl (lv_at hl 0 rfl) ?_
  refine xi_z_lt (tgt := 9) hx hb ⟨by omega, by omega⟩ dJ3_checkIndex_8e157_1 (by decide) (fun z => ?_) (fun z => ?_)
  · exfalso; omega
  · refine lv_iload_n hx hb dJ3_checkIndex_8e157_4 rfl (lv_at hl 0 rfl) ?_
    refine lv_iload_n hx hb dJ3_checkIndex_8e157_5 rfl (lv_at hl 1 rfl) ?_
    refine xi_c_lt (tgt := 16) hx hb ⟨by omega, by omega⟩ ⟨by omega, by omega⟩ dJ3_checkIndex_8e157_6 (by decide) (fun z => ?_) (fun z => ?_)
    · refine lv_iload_n hx hb dJ3_checkIndex_8e157_16 rfl (lv_at hl 0 rfl) ?_
      exact W.iret hx hb hr (fun t ht hW => ⟨_, rfl, rfl, ht⟩) (fun q h => by cases h) dJ3_checkIndex_8e157_17
    · exfalso; omega
abbrev rm_J0_checkIndex_df160 : Room := { frames := 1, cells := 0, slots := 0, locals := 22 }
set_option maxRecDepth 100000 in
set_option maxHeartbeats 4000000 in
theorem c_J0_checkIndex_df160 (l : Launch) (g : Gd) (σ : Sg) {k n : Int} (h : 0 ≤ k ∧ k < n ∧ n ≤ 1000) : Met l yJ0_checkIndex_df160 (wsOf yJ0_checkIndex_df160 cJ0_checkIndex_df160 2 none) rm_J0_checkIndex_df160 (PXs g σ (fun _ => False) (fun _ => True) [.int (iI k), .int (iI n)]) vp_S0 0 0 (fun _ => False) := by
  refine me (g := g) (by decide) rfl ?_
  intro pq eq s mq below meth cq C hnm hB ls hl
  obtain ⟨hx, hb, hr, hml, hown, hts, hlocks, hK⟩ := C
  obtain ⟨hSB, -⟩ := hB
  have hSf : va_S (fun _ => False) s.heap s.heap [] := va_S.rf
  have hown : s.vm.findClass RJ0 = some mq.cls := hown
  have hl : lv_has ls 2 [(0, .int (iI k)), (1, .int (iI n))] := hl
  refine lv_iload_n hx hb dJ0_checkIndex_df160_0 rfl (lv_at hl 0 rfl) ?_
  refine lv_iload_n hx hb dJ0_checkIndex_df160_1 rfl (lv_at hl 1 rfl) ?_
  rcases hSB.2.2.1 with hz | ⟨v, hz⟩
  · refine va_gets (C := "jdk/internal/util/Preconditions") (n := "SIOOBE_FORMATTER") (d := "Ljava/util/function/BiFunction;") (ref := "jdk/internal/util/Preconditions") hx hb hz hSf hown (hts _ fk_J0_1053) (fun x h => h) dJ0_checkIndex_df160_2 ?_
    refine xu_i (x := iI k) (rSs (rest := []) hx hb hml hown hts hK hl hSB hSf (fun _ h => h) (c_J3_checkIndex_8e157N l g σ h) lk_J0_1059 trivial rfl rfl rfl (Rm.of rfl) rfl rfl dJ0_checkIndex_df160_5) ?_
    refine lv_pop hx hb dJ0_checkIndex_df160_8 rfl ?_
    exact W.vret hx hb hr (fun t ht hW => ⟨rfl, ht⟩) (fun q h => by cases h) dJ0_checkIndex_df160_9
  · refine va_gets (C := "jdk/internal/util/Preconditions") (n := "SIOOBE_FORMATTER") (d := "Ljava/util/function/BiFunction;") (ref := "jdk/internal/util/Preconditions") hx hb hz hSf hown (hts _ fk_J0_1053) (fun x h => h) dJ0_checkIndex_df160_2 ?_
    refine xu_i (x := iI k) (rSs (rest := []) hx hb hml hown hts hK hl hSB hSf (fun _ h => h) (c_J3_checkIndex_8e157R l g σ v h) lk_J0_1059 trivial rfl rfl rfl (Rm.of rfl) rfl rfl dJ0_checkIndex_df160_5) ?_
    refine lv_pop hx hb dJ0_checkIndex_df160_8 rfl ?_
    exact W.vret hx hb hr (fun t ht hW => ⟨rfl, ht⟩) (fun q h => by cases h) dJ0_checkIndex_df160_9
abbrev rm_J1_charAt_3b067 : Room := { frames := 2, cells := 0, slots := 0, locals := 43 }
set_option maxRecDepth 100000 in
set_option maxHeartbeats 4000000 in
theorem c_J1_charAt_3b067 (l : Launch) (g : Gd) (σ : Sg) {i : Nat} (hi : i < 13) {k : Nat} (hk : k < sLen.getD i 0) : Met l yJ1_charAt_3b067 (wsOf yJ1_charAt_3b067 cJ1_charAt_3b067 2 (some .char)) rm_J1_charAt_3b067 (PXs g σ (fun _ => False) (fun _ => True) [.ref (σ.2 i), .int (iI (k : Int))]) (vp_Si (fun r => r = iI (sCh i (k : Int)))) 0 0 (fun _ => False) := by
  refine me (g := g) (by decide) rfl ?_
  intro pq eq s mq below meth cq C hnm hB ls hl
  obtain ⟨hx, hb, hr, hml, hown, hts, hlocks, hK⟩ := C
  obtain ⟨hSB, -⟩ := hB
  have hSf : va_S (fun _ => False) s.heap s.heap [] := va_S.rf
  have hown : s.vm.findClass RJ1 = some mq.cls := hown
  have hl : lv_has ls 2 [(0, .ref (σ.2 i)), (1, .int (iI (k : Int)))] := hl
  have hlb := sl_b i hi
  have hcb := sc_b i hi k (by omega)
  have hkc : (iI (k : Int)).toNatClampNeg = k := by rw [iI_cl' (by omega) (by omega)]; omega
  refine lv_iload_n hx hb dJ1_charAt_3b067_0 rfl (lv_at hl 1 rfl) ?_
  refine lv_aload_n hx hb dJ1_charAt_3b067_1 rfl (lv_at hl 0 rfl) ?_
  refine va_tlen hx hb (hSB.1.1 i hi).2.2.2 hSf (v := iI ((sLen.getD i 0 : Nat) : Int)) (iI_nat _).symm dJ1_charAt_3b067_2 ?_
  refine xu_0 (rSs (rest := []) hx hb hml hown hts hK hl hSB hSf (fun _ h => h) (c_J0_checkIndex_df160 l g σ (k := (k : Int)) (n := ((sLen.getD i 0 : Nat) : Int)) ⟨by omega, by omega, by omega⟩) lk_J1_9 trivial rfl rfl rfl (Rm.of rfl) rfl rfl dJ1_charAt_3b067_3) ?_
  refine lv_aload_n hx hb dJ1_charAt_3b067_6 rfl (lv_at hl 0 rfl) ?_
  refine lv_iload_n hx hb dJ1_charAt_3b067_7 rfl (lv_at hl 1 rfl) ?_
  refine va_tb hx hb (hSB.1.1 i hi).2.2.2 hSf (iI_in (by omega) (by omega) (by have := hlb.2; exact Nat.ble_eq_true_of_le (by omega))) (v := .int ((sByt.getD i []).getD k 0)) (by rw [hkc]) dJ1_charAt_3b067_8 ?_
  refine lv_sipush (v := iI (255)) hx hb dJ1_charAt_3b067_9 (by decide) ?_
  refine lv_iand hx hb dJ1_charAt_3b067_12 ?_
  refine lv_i2c hx hb dJ1_charAt_3b067_13 hcb.1 ?_
  exact W.zret hx hb hr hcb.2.1 (fun t ht hW => ⟨_, rfl, rfl, ht⟩) (fun q h => by cases h) dJ1_charAt_3b067_14
abbrev rm_J0_charAt_5068e : Room := { frames := 3, cells := 0, slots := 0, locals := 64 }
set_option maxRecDepth 100000 in
set_option maxHeartbeats 4000000 in
theorem c_J0_charAt_5068e (l : Launch) (g : Gd) (σ : Sg) {i : Nat} (hi : i < 13) {k : Nat} (hk : k < sLen.getD i 0) : Met l yJ0_charAt_5068e (wsOf yJ0_charAt_5068e cJ0_charAt_5068e 2 (some .char)) rm_J0_charAt_5068e (PXs g σ (fun _ => False) (fun _ => True) [.ref (σ.1 i), .int (iI (k : Int))]) (vp_Si (fun r => r = iI (sCh i (k : Int)))) 0 0 (fun _ => False) := by
  refine me (g := g) (by decide) rfl ?_
  intro pq eq s mq below meth cq C hnm hB ls hl
  obtain ⟨hx, hb, hr, hml, hown, hts, hlocks, hK⟩ := C
  obtain ⟨hSB, -⟩ := hB
  have hSf : va_S (fun _ => False) s.heap s.heap [] := va_S.rf
  have hown : s.vm.findClass RJ0 = some mq.cls := hown
  have hl : lv_has ls 2 [(0, .ref (σ.1 i)), (1, .int (iI (k : Int)))] := hl
  have hlb := sl_b i hi
  have hcb := sc_b i hi k (by omega)
  refine lv_aload_n hx hb dJ0_charAt_5068e_0 rfl (lv_at hl 0 rfl) ?_
  refine xu_i (x := iI 1) (rVs (rest := []) hx hb hml hown hts hK hl hSB hSf (fun _ h => h) (c_J0_isLatin1_aae02 l g σ hi) lk_J0_492 trivial (sb_recv hSB hi hSf) rfl rfl rfl (Rm.of rfl) rfl rfl dJ0_charAt_5068e_1) ?_
  refine lv_if_eq (tgt := 16) hx hb dJ0_charAt_5068e_4 (by decide) (fun z => absurd z (by decide)) (fun z => ?_)
  refine lv_aload_n hx hb dJ0_charAt_5068e_7 rfl (lv_at hl 0 rfl) ?_
  refine vk_getf (o := "java/lang/String") (n := "value") (d := "[B") (ref := "java/lang/String") hx hb (hSB.1.1 i hi).2.2.1 hSf hown (hts _ fk_J0_9) (fun x h => h) dJ0_charAt_5068e_8 ?_
  refine lv_iload_n hx hb dJ0_charAt_5068e_11 rfl (lv_at hl 1 rfl) ?_
  refine xu_i (x := iI (sCh i (k : Int))) (rSs (rest := []) hx hb hml hown hts hK hl hSB hSf (fun _ h => h) (c_J1_charAt_3b067 l g σ hi hk) lk_J0_495 trivial rfl rfl rfl (Rm.of rfl) rfl rfl dJ0_charAt_5068e_12) ?_
  exact W.zret hx hb hr hcb.2.1 (fun t ht hW => ⟨_, rfl, rfl, ht⟩) (fun q h => by cases h) dJ0_charAt_5068e_15
