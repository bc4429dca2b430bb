def iI (x : Int) : Int32 := Int32.ofInt x
def lI (x : Int) : Int64 := Int64.ofInt x
def IR (a : Int) : Prop := -2147483648 ≤ a ∧ a ≤ 2147483647
def LR (a : Int) : Prop := -9223372036854775808 ≤ a ∧ a ≤ 9223372036854775807
theorem iI_toInt {a : Int} (h : IR a) : (iI a).toInt = a := Int32.toInt_ofInt_of_le (by have := h.1; omega) (by have := h.2; omega)
theorem lI_toInt {a : Int} (h : LR a) : (lI a).toInt = a := Int64.toInt_ofInt_of_le (by have := h.1; omega) (by have := h.2; omega)
theorem iI_of (x : Int32) : iI x.toInt = x := Int32.ofInt_toInt x
theorem lI_of (x : Int64) : lI x.toInt = x := Int64.ofInt_toInt x
theorem IR_of (x : Int32) : IR x.toInt := ⟨by have := Int32.le_toInt x; omega, by have := Int32.toInt_lt x; omega⟩
theorem LR_of (x : Int64) : LR x.toInt := ⟨by have := Int64.le_toInt x; omega, by have := Int64.toInt_lt x; omega⟩
theorem iI_add (a b : Int) : iI a + iI b = iI (a + b) := (Int32.ofInt_add a b).symm
theorem iI_sub (a b : Int) : iI a - iI b = iI (a - b) := (Int32.ofInt_sub a b).symm
theorem iI_mul (a b : Int) : iI a * iI b = iI (a * b) := (Int32.ofInt_mul a b).symm
theorem iI_neg (a : Int) : -iI a = iI (-a) := (Int32.ofInt_neg a).symm
theorem lI_add (a b : Int) : lI a + lI b = lI (a + b) := (Int64.ofInt_add a b).symm
theorem lI_mul (a b : Int) : lI a * lI b = lI (a * b) := (Int64.ofInt_mul a b).symm
theorem iI_lt {a b : Int} (ha : IR a) (hb : IR b) : iI a < iI b ↔ a < b := by rw [Int32.lt_iff_toInt_lt, iI_toInt ha, iI_toInt hb]
theorem iI_le {a b : Int} (ha : IR a) (hb : IR b) : iI a ≤ iI b ↔ a ≤ b := by rw [Int32.le_iff_toInt_le, iI_toInt ha, iI_toInt hb]
theorem iI_eq {a b : Int} (ha : IR a) (hb : IR b) : iI a = iI b ↔ a = b := by rw [← Int32.toInt_inj, iI_toInt ha, iI_toInt hb]
theorem lI_lt {a b : Int} (ha : LR a) (hb : LR b) : lI a < lI b ↔ a < b := by rw [Int64.lt_iff_toInt_lt, lI_toInt ha, lI_toInt hb]
theorem lI_le {a b : Int} (ha : LR a) (hb : LR b) : lI a ≤ lI b ↔ a ≤ b := by rw [Int64.le_iff_toInt_le, lI_toInt ha, lI_toInt hb]
theorem lI_eq {a b : Int} (ha : LR a) (hb : LR b) : lI a = lI b ↔ a = b := by rw [← Int64.toInt_inj, lI_toInt ha, lI_toInt hb]
theorem iI_nat (n : Nat) : iI (n : Int) = nI n := by
  show Int32.ofInt (n : Int) = Int32.ofNat n
  exact Int32.ofInt_eq_ofNat
theorem iI_0 : iI 0 = 0 := by decide
theorem IR_0 : IR 0 := ⟨by decide, by decide⟩
theorem iI_in {i : Int} {n : Nat} (h0 : 0 ≤ i) (h1 : i < n) (hn : Nat.ble n 2147483647 = true) : vp_in (iI i) n := by
  have hn := Nat.le_of_ble_eq_true hn
  have hi : IR i := ⟨by omega, by omega⟩
  rw [vp_in_iff, iI_toInt hi]
  exact ⟨h0, h1⟩
theorem iI_cl {i : Int} (h0 : 0 ≤ i) (h1 : i ≤ 2147483647) : (((iI i).toNatClampNeg : Nat) : Int) = i := by
  rw [← Int32.toNat_toInt, iI_toInt ⟨by omega, h1⟩]
  omega
theorem iI_cl' {i : Int} (h0 : 0 ≤ i) (h1 : i ≤ 2147483647) : (iI i).toNatClampNeg = i.toNat := by
  rw [← Int32.toNat_toInt, iI_toInt ⟨by omega, h1⟩]
theorem iI_div {a b : Int} (h0 : 0 ≤ a) (h1 : a ≤ 2147483647) (hb0 : 0 < b) (hb1 : b ≤ 2147483647) : iI a / iI b = iI (a / b) := by
  obtain ⟨n, rfl⟩ := Int.eq_ofNat_of_zero_le h0
  obtain ⟨k, rfl⟩ := Int.eq_ofNat_of_zero_le (Int.le_of_lt hb0)
  rw [iI_nat, iI_nat, pk_div (by omega) (by omega) (by omega), ← iI_nat]
  rfl
theorem iI_rem {a b : Int} (h0 : 0 ≤ a) (h1 : a ≤ 2147483647) (hb0 : 0 < b) (hb1 : b ≤ 2147483647) : iI a - iI a / iI b * iI b = iI (a % b) := by
  rw [iI_div h0 h1 hb0 hb1, iI_mul, iI_sub]
  congr 1
  have := Int.mul_ediv_add_emod a b
  have h2 : a / b * b = b * (a / b) := Int.mul_comm _ _
  omega
theorem iI_toL {a : Int} (h : IR a) : (iI a).toInt64 = lI a := by
  rw [← Int64.toInt_inj, Int32.toInt_toInt64, iI_toInt h, lI_toInt ⟨by have := h.1; omega, by have := h.2; omega⟩]
/-- rows of numbers -/
def ar (f : Int → Int) : Nat → Int32 := fun j => iI (f (j : Int))
def la (f : Int → Int) : Nat → Int64 := fun j => lI (f (j : Int))
def up (f : Int → Int) (k v : Int) : Int → Int := fun j => if j = k then v else f j
theorem up_s (f : Int → Int) (k v : Int) : up f k v k = v := if_pos rfl
theorem up_n {f : Int → Int} {k v j : Int} (h : j ≠ k) : up f k v j = f j := if_neg h
theorem ar_up {f : Int → Int} {i v : Int} (h0 : 0 ≤ i) (h1 : i ≤ 2147483647) : upd (ar f) (iI i).toNatClampNeg (iI v) = ar (up f i v) := by
  funext j
  have h := iI_cl h0 h1
  simp only [upd, ar, up]
  by_cases hj : j = (iI i).toNatClampNeg
  · rw [if_pos hj, if_pos (by rw [hj]; exact h)]
  · rw [if_neg hj, if_neg (by omega)]
theorem la_up {f : Int → Int} {i v : Int} (h0 : 0 ≤ i) (h1 : i ≤ 2147483647) : vp_updL (la f) (iI i).toNatClampNeg (lI v) = la (up f i v) := by
  funext j
  have h := iI_cl h0 h1
  simp only [vp_updL, la, up]
  by_cases hj : j = (iI i).toNatClampNeg
  · rw [if_pos hj, if_pos (by rw [hj]; exact h)]
  · rw [if_neg hj, if_neg (by omega)]
theorem ar_at {f : Int → Int} {i : Int} (h0 : 0 ≤ i) (h1 : i ≤ 2147483647) : ar f (iI i).toNatClampNeg = iI (f i) := by
  simp only [ar]; rw [iI_cl h0 h1]
theorem la_at {f : Int → Int} {i : Int} (h0 : 0 ≤ i) (h1 : i ≤ 2147483647) : la f (iI i).toNatClampNeg = lI (f i) := by
  simp only [la]; rw [iI_cl h0 h1]
def bI (P : Prop) [Decidable P] : Int := if P then 1 else 0
theorem bI_or (P : Prop) [Decidable P] : (P ∧ bI P = 1) ∨ (¬ P ∧ bI P = 0) := by
  by_cases h : P
  · exact Or.inl ⟨h, if_pos h⟩
  · exact Or.inr ⟨h, if_neg h⟩
theorem bI_t {P : Prop} [Decidable P] (h : P) : bI P = 1 := if_pos h
theorem bI_f {P : Prop} [Decidable P] (h : ¬ P) : bI P = 0 := if_neg h
/-- the words: those that hold at every call, and those across the nest -/
def T0 : List Cond := lw_tbl.filter goodWord
def isNest : Cond → Bool
  | .fieldLinkNest .. => true
  | .methodLinkNest .. => true
  | _ => false
def NT : List Cond := tables_1.filter isNest
def NW (U : State) : Prop := ∀ w ∈ NT, va_Nw w U
theorem t0 {w : Cond} (i : Nat) (h : lw_tbl[i]? = some w) (g : goodWord w = true) : w ∈ T0 := List.mem_filter.mpr ⟨List.mem_of_getElem? h, g⟩
theorem nt {w : Cond} (i : Nat) (h : tables_1[i]? = some w) (g : isNest w = true) : w ∈ NT := List.mem_filter.mpr ⟨List.mem_of_getElem? h, g⟩
theorem NW.warm {s U : State} (hW : s.WarmedH U.vm) (h : NW s) : NW U := by
  intro w hw
  have h1 := (List.mem_filter.mp hw).2
  have h2 := h w hw
  cases w <;> first | (simp [isNest] at h1; done) | exact va_Nw.warmF hW h2 | exact va_Nw.warmM hW h2
theorem NW.same {u U : State} (h : u.vm = U.vm) (hN : NW u) : NW U := by
  intro w hw
  have h1 := (List.mem_filter.mp hw).2
  have h2 := hN w hw
  cases w <;> first | (simp [isNest] at h1; done) | exact va_Nw.same rfl h h2
abbrev Gd : Type := va_G × ClassId × ClassId × ClassId
abbrev tyl (g : Gd) : List (ClassId × FieldType) := [(g.2.1, .int), (g.2.2.1, .long), (g.2.2.2, .object "MountainFile$Sheet")]
def KX (g : Gd) (U : State) : Prop := va_K g.1 vwCl (tyl g) U ∧ NW U
theorem KX.warm {g : Gd} {s U : State} (hW : s.WarmedH U.vm) (h : KX g s) : KX g U := ⟨va_K.moved hW.alike h.1, h.2.warm hW⟩
theorem KX.calling {g : Gd} {U : State} {f : JFrame} {mk : MethodId} {a : Array Value} (h : KX g U) : KX g (U.calling f mk a) := ⟨va_K.moved (u := U) (U := U.calling f mk a) (Vm.Alike.refl U.vm) h.1, NW.same (u := U) rfl h.2⟩
/-- a method's words: its code, and T0 -/
abbrev wsOf (y : MethodName) (cc : ByteArray) (n : Nat) (r : Option FieldType) : List Cond := .code y cc n r :: T0
theorem gT {big : List Cond} {y : MethodName} {cc : ByteArray} {n : Nat} {r : Option FieldType} (hc : Cond.code y cc n r ∈ T0) (hb : ∀ w ∈ T0, w ∈ big) : GoodIn big (wsOf y cc n r) := by
  intro w hw
  have h1 : w ∈ T0 := (List.mem_cons.mp hw).elim (fun h => h ▸ hc) id
  exact ⟨hb w h1, good_of_word (List.mem_filter.mp h1).2⟩
/-- what a walk stands on -/
def CX (g : Gd) (p : Program) (s : State) (m : MethodId) (meth : Method) (c : Code) (args : Array Value) (cc : ByteArray) (nL : Nat) (own : String) (r : Option FieldType) : Prop :=
  p.tables.exec = Jvm.exec ∧ c.code = cc ∧ meth.sig.returnType = r ∧ c.maxLocals = nL ∧ s.vm.findClass own = some m.cls ∧ (∀ w ∈ T0, w.before args s = true) ∧ meth.locks = false ∧ KX g s
theorem me {l : Launch} {g : Gd} {y : MethodName} {cc : ByteArray} {nL : Nat} {r : Option FieldType} {rm : Room} {av : List Value} {B : State → Prop} {Qc : Array Value → State → Outcome → State → Prop} {mc ms : Nat} {free : Addr → Prop} (hy : plainName y.cls = true) (hn : Nat.ble (lg_sl av).length nL = true)
    (h : ∀ (p : Program) (e : Env) (s : State) (m : MethodId) (below : List Frame) (meth : Method) (c : Code), CX g p s m meth c av.toArray cc nL y.cls r → meth.name = y.name → B s → ∀ ls : Array Slot, lv_has ls nL (lv_args 0 av) → W p l e rm s m av.toArray below meth c s.heap [] 0 0 (MQ below Qc av.toArray s mc ms free) (F0 m 0 ls [])) :
    Met l y (wsOf y cc nL r) rm (va_Pc av (fun U => KX g U ∧ B U)) Qc mc ms free := by
  refine Met.ofW (cc := cc) (maxL := nL) (ret := r) hy rfl ?_
  intro p e s m args below meth c s₁ Bd hml hv
  obtain ⟨rfl, hK, hB⟩ := hv
  have hts := atoms_spec (ws := wsOf y cc nL r) Bd.pre
  have hown : s.vm.findClass y.cls = some m.cls := findClass_of_methodNamed Bd.named
  have hl := lv_entry av (n := nL) (Nat.le_of_ble_eq_true hn)
  rw [lg_entry_eq]
  exact h p e s m below meth c ⟨Bd.exec, Bd.bytes, Bd.returns, hml, hown, fun w hw => hts w (List.mem_cons_of_mem _ hw), Bd.notSynchronized, hK⟩ (name_of_methodNamed Bd.named Bd.method).1 hB _ hl
/-- links of a call, out of the words -/
def LkS (own : String) (idx : Nat) (y : MethodName) (cc : ByteArray) (n : Nat) (r : Option FieldType) (k : Nat) : Prop :=
  Cond.methodLink own idx y ∈ T0 ∧ Cond.static y ∈ T0 ∧ Cond.initialized y.cls ∈ T0 ∧ Cond.code y cc n r ∈ T0 ∧ (y.cls ≠ "java/lang/invoke/MethodHandle" ∧ y.cls ≠ "java/lang/invoke/VarHandle") ∧ (parseMethodDescriptor y.desc).map (fun d => d.parameters.length) = some k
def LkV (own : String) (idx : Nat) (y : MethodName) (cc : ByteArray) (n : Nat) (r : Option FieldType) (k : Nat) : Prop :=
  Cond.methodLink own idx y ∈ T0 ∧ Cond.instanceMethod y ∈ T0 ∧ Cond.selects y.cls y y ∈ T0 ∧ Cond.initialized y.cls ∈ T0 ∧ Cond.code y cc n r ∈ T0 ∧ (y.cls ≠ "java/lang/invoke/MethodHandle" ∧ y.cls ≠ "java/lang/invoke/VarHandle") ∧ (parseMethodDescriptor y.desc).map (fun d => d.parameters.length) = some k
def LkSN (own : String) (idx : Nat) (host : String) (y : MethodName) (cc : ByteArray) (n : Nat) (r : Option FieldType) (k : Nat) : Prop :=
  Cond.methodLinkNest own idx y host ∈ NT ∧ Cond.static y ∈ T0 ∧ Cond.initialized y.cls ∈ T0 ∧ Cond.code y cc n r ∈ T0 ∧ (y.cls ≠ "java/lang/invoke/MethodHandle" ∧ y.cls ≠ "java/lang/invoke/VarHandle") ∧ (parseMethodDescriptor y.desc).map (fun d => d.parameters.length) = some k
def LkVN (own : String) (idx : Nat) (host : String) (y : MethodName) (cc : ByteArray) (n : Nat) (r : Option FieldType) (k : Nat) : Prop :=
  Cond.methodLinkNest own idx y host ∈ NT ∧ Cond.instanceMethod y ∈ T0 ∧ Cond.selects y.cls y y ∈ T0 ∧ Cond.initialized y.cls ∈ T0 ∧ Cond.code y cc n r ∈ T0 ∧ (y.cls ≠ "java/lang/invoke/MethodHandle" ∧ y.cls ≠ "java/lang/invoke/VarHandle") ∧ (parseMethodDescriptor y.desc).map (fun d => d.parameters.length) = some k
/-- the room that a call takes -/
def Rm (rm R : Room) (n cells slots : Nat) : Prop := rm.frames + 1 ≤ R.frames ∧ 8 + (n + 11) + rm.locals ≤ R.locals ∧ cells + rm.cells ≤ R.cells ∧ slots + rm.slots ≤ R.slots
theorem Rm.of {rm R : Room} {n cells slots : Nat} (h : (Nat.ble (rm.frames + 1) R.frames && (Nat.ble (8 + (n + 11) + rm.locals) R.locals && (Nat.ble (cells + rm.cells) R.cells && Nat.ble (slots + rm.slots) R.slots))) = true) : Rm rm R n cells slots := by
  simp only [Bool.and_eq_true] at h
  exact ⟨Nat.le_of_ble_eq_true h.1, Nat.le_of_ble_eq_true h.2.1, Nat.le_of_ble_eq_true h.2.2.1, Nat.le_of_ble_eq_true h.2.2.2⟩
section XB
variable {p : Program} {l : Launch} {e : Env} {R : Room} {s : State} {m : MethodId} {args : Array Value} {below : List Frame} {meth : Method} {c : Code} {H : Heap} {locs : List Loc} {cells slots : Nat} {Q : State → Prop} {cc : ByteArray} {pc : Nat} {ls : Array Slot} {rest : List Value} {g : Gd}

theorem xi_add (hx : p.tables.exec = Jvm.exec) (hb : c.code = cc) {a b : Int} (d : decode cc pc = .ok (.iadd, 1)) (k : W p l e R s m args below meth c H locs cells slots Q (F0 m (pc + 1) ls (.int (iI (a + b)) :: rest))) : W p l e R s m args below meth c H locs cells slots Q (F0 m pc ls (.int (iI b) :: .int (iI a) :: rest)) := lv_iadd hx hb d (by rw [iI_add]; exact k)
theorem xi_sub (hx : p.tables.exec = Jvm.exec) (hb : c.code = cc) {a b : Int} (d : decode cc pc = .ok (.isub, 1)) (k : W p l e R s m args below meth c H locs cells slots Q (F0 m (pc + 1) ls (.int (iI (a - b)) :: rest))) : W p l e R s m args below meth c H locs cells slots Q (F0 m pc ls (.int (iI b) :: .int (iI a) :: rest)) := lv_isub hx hb d (by rw [iI_sub]; exact k)
theorem xi_mul (hx : p.tables.exec = Jvm.exec) (hb : c.code = cc) {a b : Int} (d : decode cc pc = .ok (.imul, 1)) (k : W p l e R s m args below meth c H locs cells slots Q (F0 m (pc + 1) ls (.int (iI (a * b)) :: rest))) : W p l e R s m args below meth c H locs cells slots Q (F0 m pc ls (.int (iI b) :: .int (iI a) :: rest)) := lv_imul hx hb d (by rw [iI_mul]; exact k)
theorem xi_neg (hx : p.tables.exec = Jvm.exec) (hb : c.code = cc) {a : Int} (d : decode cc pc = .ok (.ineg, 1)) (k : W p l e R s m args below meth c H locs cells slots Q (F0 m (pc + 1) ls (.int (iI (-a)) :: rest))) : W p l e R s m args below meth c H locs cells slots Q (F0 m pc ls (.int (iI a) :: rest)) := lv_ineg hx hb d (by rw [iI_neg]; exact k)
theorem xi_div (hx : p.tables.exec = Jvm.exec) (hb : c.code = cc) {a b : Int} (h : 0 ≤ a ∧ a ≤ 2147483647 ∧ 0 < b ∧ b ≤ 2147483647) (d : decode cc pc = .ok (.idiv, 1)) (k : W p l e R s m args below meth c H locs cells slots Q (F0 m (pc + 1) ls (.int (iI (a / b)) :: rest))) : W p l e R s m args below meth c H locs cells slots Q (F0 m pc ls (.int (iI b) :: .int (iI a) :: rest)) := lv_idiv hx hb d (fun z => by have := (iI_eq ⟨by omega, by omega⟩ IR_0).mp (z.trans iI_0.symm); omega) (by rw [iI_div h.1 h.2.1 h.2.2.1 h.2.2.2]; exact k)
theorem xi_rem (hx : p.tables.exec = Jvm.exec) (hb : c.code = cc) {a b : Int} (h : 0 ≤ a ∧ a ≤ 2147483647 ∧ 0 < b ∧ b ≤ 2147483647) (d : decode cc pc = .ok (.irem, 1)) (k : W p l e R s m args below meth c H locs cells slots Q (F0 m (pc + 1) ls (.int (iI (a % b)) :: rest))) : W p l e R s m args below meth c H locs cells slots Q (F0 m pc ls (.int (iI b) :: .int (iI a) :: rest)) := lv_irem hx hb d (fun z => by have := (iI_eq ⟨by omega, by omega⟩ IR_0).mp (z.trans iI_0.symm); omega) (by rw [iI_rem h.1 h.2.1 h.2.2.1 h.2.2.2]; exact k)
theorem xi_i2l (hx : p.tables.exec = Jvm.exec) (hb : c.code = cc) {a : Int} (h : IR a) (d : decode cc pc = .ok (.i2l, 1)) (k : W p l e R s m args below meth c H locs cells slots Q (F0 m (pc + 1) ls (.long (lI a) :: rest))) : W p l e R s m args below meth c H locs cells slots Q (F0 m pc ls (.int (iI a) :: rest)) := lv_i2l hx hb d (iI_toL h) k
theorem xl_add (hx : p.tables.exec = Jvm.exec) (hb : c.code = cc) {a b : Int} (d : decode cc pc = .ok (.ladd, 1)) (k : W p l e R s m args below meth c H locs cells slots Q (F0 m (pc + 1) ls (.long (lI (a + b)) :: rest))) : W p l e R s m args below meth c H locs cells slots Q (F0 m pc ls (.long (lI b) :: .long (lI a) :: rest)) := lv_ladd hx hb d (by rw [lI_add]; exact k)
theorem xl_mul (hx : p.tables.exec = Jvm.exec) (hb : c.code = cc) {a b : Int} (d : decode cc pc = .ok (.lmul, 1)) (k : W p l e R s m args below meth c H locs cells slots Q (F0 m (pc + 1) ls (.long (lI (a * b)) :: rest))) : W p l e R s m args below meth c H locs cells slots Q (F0 m pc ls (.long (lI b) :: .long (lI a) :: rest)) := lv_lmul hx hb d (by rw [lI_mul]; exact k)
theorem xi_c_eq (hx : p.tables.exec = Jvm.exec) (hb : c.code = cc) {a b : Int} {off : Int} {tgt : Nat} (ha : IR a) (hb1 : IR b) (d : decode cc pc = .ok (.if_icmp .eq off, 3)) (ht : (pc : Int) + off = (tgt : Int)) (kt : a = b → W p l e R s m args below meth c H locs cells slots Q (F0 m tgt ls rest)) (kf : ¬ a = b → W p l e R s m args below meth c H locs cells slots Q (F0 m (pc + 3) ls rest)) : W p l e R s m args below meth c H locs cells slots Q (F0 m pc ls (.int (iI b) :: .int (iI a) :: rest)) := by
  have e1 := iI_eq ha hb1
  have e2 := iI_lt ha hb1
  have e3 := iI_le ha hb1
  have e4 := iI_lt hb1 ha
  have e5 := iI_le hb1 ha
  refine lv_icmp_eq (tgt := tgt) hx hb d ht (fun z => kt ?_) (fun z => kf ?_)
  · exact e1.mp z
  · exact fun q => z (e1.mpr q)
theorem xi_c_ne (hx : p.tables.exec = Jvm.exec) (hb : c.code = cc) {a b : Int} {off : Int} {tgt : Nat} (ha : IR a) (hb1 : IR b) (d : decode cc pc = .ok (.if_icmp .ne off, 3)) (ht : (pc : Int) + off = (tgt : Int)) (kt : ¬ a = b → W p l e R s m args below meth c H locs cells slots Q (F0 m tgt ls rest)) (kf : a = b → W p l e R s m args below meth c H locs cells slots Q (F0 m (pc + 3) ls rest)) : W p l e R s m args below meth c H locs cells slots Q (F0 m pc ls (.int (iI b) :: .int (iI a) :: rest)) := by
  have e1 := iI_eq ha hb1
  have e2 := iI_lt ha hb1
  have e3 := iI_le ha hb1
  have e4 := iI_lt hb1 ha
  have e5 := iI_le hb1 ha
  refine lv_icmp_ne (tgt := tgt) hx hb d ht (fun z => kt ?_) (fun z => kf ?_)
  · exact fun q => z (e1.mpr q)
  · exact e1.mp z
theorem xi_c_lt (hx : p.tables.exec = Jvm.exec) (hb : c.code = cc) {a b : Int} {off : Int} {tgt : Nat} (ha : IR a) (hb1 : IR b) (d : decode cc pc = .ok (.if_icmp .lt off, 3)) (ht : (pc : Int) + off = (tgt : Int)) (kt : a < b → W p l e R s m args below meth c H locs cells slots Q (F0 m tgt ls rest)) (kf : b ≤ a → W p l e R s m args below meth c H locs cells slots Q (F0 m (pc + 3) ls rest)) : W p l e R s m args below meth c H locs cells slots Q (F0 m pc ls (.int (iI b) :: .int (iI a) :: rest)) := by
  have e1 := iI_eq ha hb1
  have e2 := iI_lt ha hb1
  have e3 := iI_le ha hb1
  have e4 := iI_lt hb1 ha
  have e5 := iI_le hb1 ha
  refine lv_icmp_lt (tgt := tgt) hx hb d ht (fun z => kt ?_) (fun z => kf ?_)
  · first | exact e2.mp z | exact e3.mp z | exact e4.mp z | exact e5.mp z
  · exact Int.not_lt.mp (fun w => z (e2.mpr w))
theorem xi_c_ge (hx : p.tables.exec = Jvm.exec) (hb : c.code = cc) {a b : Int} {off : Int} {tgt : Nat} (ha : IR a) (hb1 : IR b) (d : decode cc pc = .ok (.if_icmp .ge off, 3)) (ht : (pc : Int) + off = (tgt : Int)) (kt : b ≤ a → W p l e R s m args below meth c H locs cells slots Q (F0 m tgt ls rest)) (kf : a < b → W p l e R s m args below meth c H locs cells slots Q (F0 m (pc + 3) ls rest)) : W p l e R s m args below meth c H locs cells slots Q (F0 m pc ls (.int (iI b) :: .int (iI a) :: rest)) := by
  have e1 := iI_eq ha hb1
  have e2 := iI_lt ha hb1
  have e3 := iI_le ha hb1
  have e4 := iI_lt hb1 ha
  have e5 := iI_le hb1 ha
  refine lv_icmp_ge (tgt := tgt) hx hb d ht (fun z => kt ?_) (fun z => kf ?_)
  · first | exact e2.mp z | exact e3.mp z | exact e4.mp z | exact e5.mp z
  · exact Int.not_le.mp (fun w => z (e5.mpr w))
theorem xi_c_gt (hx : p.tables.exec = Jvm.exec) (hb : c.code = cc) {a b : Int} {off : Int} {tgt : Nat} (ha : IR a) (hb1 : IR b) (d : decode cc pc = .ok (.if_icmp .gt off, 3)) (ht : (pc : Int) + off = (tgt : Int)) (kt : b < a → W p l e R s m args below meth c H locs cells slots Q (F0 m tgt ls rest)) (kf : a ≤ b → W p l e R s m args below meth c H locs cells slots Q (F0 m (pc + 3) ls rest)) : W p l e R s m args below meth c H locs cells slots Q (F0 m pc ls (.int (iI b) :: .int (iI a) :: rest)) := by
  have e1 := iI_eq ha hb1
  have e2 := iI_lt ha hb1
  have e3 := iI_le ha hb1
  have e4 := iI_lt hb1 ha
  have e5 := iI_le hb1 ha
  refine lv_icmp_gt (tgt := tgt) hx hb d ht (fun z => kt ?_) (fun z => kf ?_)
  · first | exact e2.mp z | exact e3.mp z | exact e4.mp z | exact e5.mp z
  · exact Int.not_lt.mp (fun w => z (e4.mpr w))
theorem xi_c_le (hx : p.tables.exec = Jvm.exec) (hb : c.code = cc) {a b : Int} {off : Int} {tgt : Nat} (ha : IR a) (hb1 : IR b) (d : decode cc pc = .ok (.if_icmp .le off, 3)) (ht : (pc : Int) + off = (tgt : Int)) (kt : a ≤ b → W p l e R s m args below meth c H locs cells slots Q (F0 m tgt ls rest)) (kf : b < a → W p l e R s m args below meth c H locs cells slots Q (F0 m (pc + 3) ls rest)) : W p l e R s m args below meth c H locs cells slots Q (F0 m pc ls (.int (iI b) :: .int (iI a) :: rest)) := by
  have e1 := iI_eq ha hb1
  have e2 := iI_lt ha hb1
  have e3 := iI_le ha hb1
  have e4 := iI_lt hb1 ha
  have e5 := iI_le hb1 ha
  refine lv_icmp_le (tgt := tgt) hx hb d ht (fun z => kt ?_) (fun z => kf ?_)
  · first | exact e2.mp z | exact e3.mp z | exact e4.mp z | exact e5.mp z
  · exact Int.not_le.mp (fun w => z (e3.mpr w))
theorem xi_z_eq (hx : p.tables.exec = Jvm.exec) (hb : c.code = cc) {a : Int} {off : Int} {tgt : Nat} (ha : IR a) (d : decode cc pc = .ok (.ifCond .eq off, 3)) (ht : (pc : Int) + off = (tgt : Int)) (kt : a = 0 → W p l e R s m args below meth c H locs cells slots Q (F0 m tgt ls rest)) (kf : ¬ a = 0 → W p l e R s m args below meth c H locs cells slots Q (F0 m (pc + 3) ls rest)) : W p l e R s m args below meth c H locs cells slots Q (F0 m pc ls (.int (iI a) :: rest)) := by
  have e1 : iI a = 0 ↔ a = 0 := by rw [← iI_0]; exact iI_eq ha IR_0
  have e2 : iI a < 0 ↔ a < 0 := by rw [← iI_0]; exact iI_lt ha IR_0
  have e3 : iI a ≤ 0 ↔ a ≤ 0 := by rw [← iI_0]; exact iI_le ha IR_0
  have e4 : 0 < iI a ↔ 0 < a := by rw [← iI_0]; exact iI_lt IR_0 ha
  have e5 : 0 ≤ iI a ↔ 0 ≤ a := by rw [← iI_0]; exact iI_le IR_0 ha
  refine lv_if_eq (tgt := tgt) hx hb d ht (fun z => kt ?_) (fun z => kf ?_)
  · exact e1.mp z
  · exact fun q => z (e1.mpr q)
theorem xi_zt_eq (hx : p.tables.exec = Jvm.exec) (hb : c.code = cc) {a : Int} {off : Int} {tgt : Nat} (ha : IR a) (hc : a = 0) (d : decode cc pc = .ok (.ifCond .eq off, 3)) (ht : (pc : Int) + off = (tgt : Int)) (kt : W p l e R s m args below meth c H locs cells slots Q (F0 m tgt ls rest)) : W p l e R s m args below meth c H locs cells slots Q (F0 m pc ls (.int (iI a) :: rest)) := xi_z_eq hx hb ha d ht (fun _ => kt) (fun z => by first | exact absurd hc z | exact absurd z hc | (exfalso; omega))
theorem xi_zf_eq (hx : p.tables.exec = Jvm.exec) (hb : c.code = cc) {a : Int} {off : Int} (ha : IR a) (hc : ¬ a = 0) (d : decode cc pc = .ok (.ifCond .eq off, 3)) (ht : ∃ tgt : Nat, (pc : Int) + off = (tgt : Int)) (kf : W p l e R s m args below meth c H locs cells slots Q (F0 m (pc + 3) ls rest)) : W p l e R s m args below meth c H locs cells slots Q (F0 m pc ls (.int (iI a) :: rest)) := xi_z_eq (tgt := ht.choose) hx hb ha d ht.choose_spec (fun z => by first | exact absurd hc z | exact absurd z hc | (exfalso; omega)) (fun _ => kf)
theorem xi_z_ne (hx : p.tables.exec = Jvm.exec) (hb : c.code = cc) {a : Int} {off : Int} {tgt : Nat} (ha : IR a) (d : decode cc pc = .ok (.ifCond .ne off, 3)) (ht : (pc : Int) + off = (tgt : Int)) (kt : ¬ a = 0 → W p l e R s m args below meth c H locs cells slots Q (F0 m tgt ls rest)) (kf : a = 0 → W p l e R s m args below meth c H locs cells slots Q (F0 m (pc + 3) ls rest)) : W p l e R s m args below meth c H locs cells slots Q (F0 m pc ls (.int (iI a) :: rest)) := by
  have e1 : iI a = 0 ↔ a = 0 := by rw [← iI_0]; exact iI_eq ha IR_0
  have e2 : iI a < 0 ↔ a < 0 := by rw [← iI_0]; exact iI_lt ha IR_0
  have e3 : iI a ≤ 0 ↔ a ≤ 0 := by rw [← iI_0]; exact iI_le ha IR_0
  have e4 : 0 < iI a ↔ 0 < a := by rw [← iI_0]; exact iI_lt IR_0 ha
  have e5 : 0 ≤ iI a ↔ 0 ≤ a := by rw [← iI_0]; exact iI_le IR_0 ha
  refine lv_if_ne (tgt := tgt) hx hb d ht (fun z => kt ?_) (fun z => kf ?_)
  · exact fun q => z (e1.mpr q)
  · exact e1.mp z
theorem xi_zt_ne (hx : p.tables.exec = Jvm.exec) (hb : c.code = cc) {a : Int} {off : Int} {tgt : Nat} (ha : IR a) (hc : ¬ a = 0) (d : decode cc pc = .ok (.ifCond .ne off, 3)) (ht : (pc : Int) + off = (tgt : Int)) (kt : W p l e R s m args below meth c H locs cells slots Q (F0 m tgt ls rest)) : W p l e R s m args below meth c H locs cells slots Q (F0 m pc ls (.int (iI a) :: rest)) := xi_z_ne hx hb ha d ht (fun _ => kt) (fun z => by first | exact absurd hc z | exact absurd z hc | (exfalso; omega))
theorem xi_zf_ne (hx : p.tables.exec = Jvm.exec) (hb : c.code = cc) {a : Int} {off : Int} (ha : IR a) (hc : a = 0) (d : decode cc pc = .ok (.ifCond .ne off, 3)) (ht : ∃ tgt : Nat, (pc : Int) + off = (tgt : Int)) (kf : W p l e R s m args below meth c H locs cells slots Q (F0 m (pc + 3) ls rest)) : W p l e R s m args below meth c H locs cells slots Q (F0 m pc ls (.int (iI a) :: rest)) := xi_z_ne (tgt := ht.choose) hx hb ha d ht.choose_spec (fun z => by first | exact absurd hc z | exact absurd z hc | (exfalso; omega)) (fun _ => kf)
theorem xi_z_lt (hx : p.tables.exec = Jvm.exec) (hb : c.code = cc) {a : Int} {off : Int} {tgt : Nat} (ha : IR a) (d : decode cc pc = .ok (.ifCond .lt off, 3)) (ht : (pc : Int) + off = (tgt : Int)) (kt : a < 0 → W p l e R s m args below meth c H locs cells slots Q (F0 m tgt ls rest)) (kf : 0 ≤ a → W p l e R s m args below meth c H locs cells slots Q (F0 m (pc + 3) ls rest)) : W p l e R s m args below meth c H locs cells slots Q (F0 m pc ls (.int (iI a) :: rest)) := by
  have e1 : iI a = 0 ↔ a = 0 := by rw [← iI_0]; exact iI_eq ha IR_0
  have e2 : iI a < 0 ↔ a < 0 := by rw [← iI_0]; exact iI_lt ha IR_0
  have e3 : iI a ≤ 0 ↔ a ≤ 0 := by rw [← iI_0]; exact iI_le ha IR_0
  have e4 : 0 < iI a ↔ 0 < a := by rw [← iI_0]; exact iI_lt IR_0 ha
  have e5 : 0 ≤ iI a ↔ 0 ≤ a := by rw [← iI_0]; exact iI_le IR_0 ha
  refine lv_if_lt (tgt := tgt) hx hb d ht (fun z => kt ?_) (fun z => kf ?_)
  · first | exact e2.mp z | exact e3.mp z | exact e4.mp z | exact e5.mp z
  · exact Int.not_lt.mp (fun w => z (e2.mpr w))
theorem xi_zt_lt (hx : p.tables.exec = Jvm.exec) (hb : c.code = cc) {a : Int} {off : Int} {tgt : Nat} (ha : IR a) (hc : a < 0) (d : decode cc pc = .ok (.ifCond .lt off, 3)) (ht : (pc : Int) + off = (tgt : Int)) (kt : W p l e R s m args below meth c H locs cells slots Q (F0 m tgt ls rest)) : W p l e R s m args below meth c H locs cells slots Q (F0 m pc ls (.int (iI a) :: rest)) := xi_z_lt hx hb ha d ht (fun _ => kt) (fun z => by first | exact absurd hc z | exact absurd z hc | (exfalso; omega))
theorem xi_zf_lt (hx : p.tables.exec = Jvm.exec) (hb : c.code = cc) {a : Int} {off : Int} (ha : IR a) (hc : 0 ≤ a) (d : decode cc pc = .ok (.ifCond .lt off, 3)) (ht : ∃ tgt : Nat, (pc : Int) + off = (tgt : Int)) (kf : W p l e R s m args below meth c H locs cells slots Q (F0 m (pc + 3) ls rest)) : W p l e R s m args below meth c H locs cells slots Q (F0 m pc ls (.int (iI a) :: rest)) := xi_z_lt (tgt := ht.choose) hx hb ha d ht.choose_spec (fun z => by first | exact absurd hc z | exact absurd z hc | (exfalso; omega)) (fun _ => kf)
theorem xi_z_ge (hx : p.tables.exec = Jvm.exec) (hb : c.code = cc) {a : Int} {off : Int} {tgt : Nat} (ha : IR a) (d : decode cc pc = .ok (.ifCond .ge off, 3)) (ht : (pc : Int) + off = (tgt : Int)) (kt : 0 ≤ a → W p l e R s m args below meth c H locs cells slots Q (F0 m tgt ls rest)) (kf : a < 0 → W p l e R s m args below meth c H locs cells slots Q (F0 m (pc + 3) ls rest)) : W p l e R s m args below meth c H locs cells slots Q (F0 m pc ls (.int (iI a) :: rest)) := by
  have e1 : iI a = 0 ↔ a = 0 := by rw [← iI_0]; exact iI_eq ha IR_0
  have e2 : iI a < 0 ↔ a < 0 := by rw [← iI_0]; exact iI_lt ha IR_0
  have e3 : iI a ≤ 0 ↔ a ≤ 0 := by rw [← iI_0]; exact iI_le ha IR_0
  have e4 : 0 < iI a ↔ 0 < a := by rw [← iI_0]; exact iI_lt IR_0 ha
  have e5 : 0 ≤ iI a ↔ 0 ≤ a := by rw [← iI_0]; exact iI_le IR_0 ha
  refine lv_if_ge (tgt := tgt) hx hb d ht (fun z => kt ?_) (fun z => kf ?_)
  · first | exact e2.mp z | exact e3.mp z | exact e4.mp z | exact e5.mp z
  · exact Int.not_le.mp (fun w => z (e5.mpr w))
theorem xi_zt_ge (hx : p.tables.exec = Jvm.exec) (hb : c.code = cc) {a : Int} {off : Int} {tgt : Nat} (ha : IR a) (hc : 0 ≤ a) (d : decode cc pc = .ok (.ifCond .ge off, 3)) (ht : (pc : Int) + off = (tgt : Int)) (kt : W p l e R s m args below meth c H locs cells slots Q (F0 m tgt ls rest)) : W p l e R s m args below meth c H locs cells slots Q (F0 m pc ls (.int (iI a) :: rest)) := xi_z_ge hx hb ha d ht (fun _ => kt) (fun z => by first | exact absurd hc z | exact absurd z hc | (exfalso; omega))
theorem xi_zf_ge (hx : p.tables.exec = Jvm.exec) (hb : c.code = cc) {a : Int} {off : Int} (ha : IR a) (hc : a < 0) (d : decode cc pc = .ok (.ifCond .ge off, 3)) (ht : ∃ tgt : Nat, (pc : Int) + off = (tgt : Int)) (kf : W p l e R s m args below meth c H locs cells slots Q (F0 m (pc + 3) ls rest)) : W p l e R s m args below meth c H locs cells slots Q (F0 m pc ls (.int (iI a) :: rest)) := xi_z_ge (tgt := ht.choose) hx hb ha d ht.choose_spec (fun z => by first | exact absurd hc z | exact absurd z hc | (exfalso; omega)) (fun _ => kf)
theorem xi_z_gt (hx : p.tables.exec = Jvm.exec) (hb : c.code = cc) {a : Int} {off : Int} {tgt : Nat} (ha : IR a) (d : decode cc pc = .ok (.ifCond .gt off, 3)) (ht : (pc : Int) + off = (tgt : Int)) (kt : 0 < a → W p l e R s m args below meth c H locs cells slots Q (F0 m tgt ls rest)) (kf : a ≤ 0 → W p l e R s m args below meth c H locs cells slots Q (F0 m (pc + 3) ls rest)) : W p l e R s m args below meth c H locs cells slots Q (F0 m pc ls (.int (iI a) :: rest)) := by
  have e1 : iI a = 0 ↔ a = 0 := by rw [← iI_0]; exact iI_eq ha IR_0
  have e2 : iI a < 0 ↔ a < 0 := by rw [← iI_0]; exact iI_lt ha IR_0
  have e3 : iI a ≤ 0 ↔ a ≤ 0 := by rw [← iI_0]; exact iI_le ha IR_0
  have e4 : 0 < iI a ↔ 0 < a := by rw [← iI_0]; exact iI_lt IR_0 ha
  have e5 : 0 ≤ iI a ↔ 0 ≤ a := by rw [← iI_0]; exact iI_le IR_0 ha
  refine lv_if_gt (tgt := tgt) hx hb d ht (fun z => kt ?_) (fun z => kf ?_)
  · first | exact e2.mp z | exact e3.mp z | exact e4.mp z | exact e5.mp z
  · exact Int.not_lt.mp (fun w => z (e4.mpr w))
theorem xi_zt_gt (hx : p.tables.exec = Jvm.exec) (hb : c.code = cc) {a : Int} {off : Int} {tgt : Nat} (ha : IR a) (hc : 0 < a) (d : decode cc pc = .ok (.ifCond .gt off, 3)) (ht : (pc : Int) + off = (tgt : Int)) (kt : W p l e R s m args below meth c H locs cells slots Q (F0 m tgt ls rest)) : W p l e R s m args below meth c H locs cells slots Q (F0 m pc ls (.int (iI a) :: rest)) := xi_z_gt hx hb ha d ht (fun _ => kt) (fun z => by first | exact absurd hc z | exact absurd z hc | (exfalso; omega))
theorem xi_zf_gt (hx : p.tables.exec = Jvm.exec) (hb : c.code = cc) {a : Int} {off : Int} (ha : IR a) (hc : a ≤ 0) (d : decode cc pc = .ok (.ifCond .gt off, 3)) (ht : ∃ tgt : Nat, (pc : Int) + off = (tgt : Int)) (kf : W p l e R s m args below meth c H locs cells slots Q (F0 m (pc + 3) ls rest)) : W p l e R s m args below meth c H locs cells slots Q (F0 m pc ls (.int (iI a) :: rest)) := xi_z_gt (tgt := ht.choose) hx hb ha d ht.choose_spec (fun z => by first | exact absurd hc z | exact absurd z hc | (exfalso; omega)) (fun _ => kf)
theorem xi_z_le (hx : p.tables.exec = Jvm.exec) (hb : c.code = cc) {a : Int} {off : Int} {tgt : Nat} (ha : IR a) (d : decode cc pc = .ok (.ifCond .le off, 3)) (ht : (pc : Int) + off = (tgt : Int)) (kt : a ≤ 0 → W p l e R s m args below meth c H locs cells slots Q (F0 m tgt ls rest)) (kf : 0 < a → W p l e R s m args below meth c H locs cells slots Q (F0 m (pc + 3) ls rest)) : W p l e R s m args below meth c H locs cells slots Q (F0 m pc ls (.int (iI a) :: rest)) := by
  have e1 : iI a = 0 ↔ a = 0 := by rw [← iI_0]; exact iI_eq ha IR_0
  have e2 : iI a < 0 ↔ a < 0 := by rw [← iI_0]; exact iI_lt ha IR_0
  have e3 : iI a ≤ 0 ↔ a ≤ 0 := by rw [← iI_0]; exact iI_le ha IR_0
  have e4 : 0 < iI a ↔ 0 < a := by rw [← iI_0]; exact iI_lt IR_0 ha
  have e5 : 0 ≤ iI a ↔ 0 ≤ a := by rw [← iI_0]; exact iI_le IR_0 ha
  refine lv_if_le (tgt := tgt) hx hb d ht (fun z => kt ?_) (fun z => kf ?_)
  · first | exact e2.mp z | exact e3.mp z | exact e4.mp z | exact e5.mp z
  · exact Int.not_le.mp (fun w => z (e3.mpr w))
theorem xi_zt_le (hx : p.tables.exec = Jvm.exec) (hb : c.code = cc) {a : Int} {off : Int} {tgt : Nat} (ha : IR a) (hc : a ≤ 0) (d : decode cc pc = .ok (.ifCond .le off, 3)) (ht : (pc : Int) + off = (tgt : Int)) (kt : W p l e R s m args below meth c H locs cells slots Q (F0 m tgt ls rest)) : W p l e R s m args below meth c H locs cells slots Q (F0 m pc ls (.int (iI a) :: rest)) := xi_z_le hx hb ha d ht (fun _ => kt) (fun z => by first | exact absurd hc z | exact absurd z hc | (exfalso; omega))
theorem xi_zf_le (hx : p.tables.exec = Jvm.exec) (hb : c.code = cc) {a : Int} {off : Int} (ha : IR a) (hc : 0 < a) (d : decode cc pc = .ok (.ifCond .le off, 3)) (ht : ∃ tgt : Nat, (pc : Int) + off = (tgt : Int)) (kf : W p l e R s m args below meth c H locs cells slots Q (F0 m (pc + 3) ls rest)) : W p l e R s m args below meth c H locs cells slots Q (F0 m pc ls (.int (iI a) :: rest)) := xi_z_le (tgt := ht.choose) hx hb ha d ht.choose_spec (fun z => by first | exact absurd hc z | exact absurd z hc | (exfalso; omega)) (fun _ => kf)
theorem xl_c_eq (hx : p.tables.exec = Jvm.exec) (hb : c.code = cc) {a b : Int} {off : Int} {tgt : Nat} (ha : LR a) (hb1 : LR b) (d0 : decode cc pc = .ok (.lcmp, 1)) (d : decode cc (pc + 1) = .ok (.ifCond .eq off, 3)) (ht : ((pc + 1 : Nat) : Int) + off = (tgt : Int)) (kt : a = b → W p l e R s m args below meth c H locs cells slots Q (F0 m tgt ls rest)) (kf : ¬ a = b → W p l e R s m args below meth c H locs cells slots Q (F0 m (pc + 1 + 3) ls rest)) : W p l e R s m args below meth c H locs cells slots Q (F0 m pc ls (.long (lI b) :: .long (lI a) :: rest)) := by
  have e1 := (lg_cmp_eq (lI a) (lI b)).trans (lI_eq ha hb1)
  have e2 := (lg_cmp_lt (lI a) (lI b)).trans (lI_lt ha hb1)
  have e3 := (lg_cmp_le (lI a) (lI b)).trans (lI_le ha hb1)
  have e4 := (lg_cmp_gt (lI a) (lI b)).trans (lI_lt hb1 ha)
  have e5 := (lg_cmp_ge (lI a) (lI b)).trans (lI_le hb1 ha)
  refine W.lcmp hx hb d0 ?_
  refine lv_if_eq (tgt := tgt) hx hb d ht (fun z => kt ?_) (fun z => kf ?_)
  · exact e1.mp z
  · exact fun q => z (e1.mpr q)
theorem xl_c_ne (hx : p.tables.exec = Jvm.exec) (hb : c.code = cc) {a b : Int} {off : Int} {tgt : Nat} (ha : LR a) (hb1 : LR b) (d0 : decode cc pc = .ok (.lcmp, 1)) (d : decode cc (pc + 1) = .ok (.ifCond .ne off, 3)) (ht : ((pc + 1 : Nat) : Int) + off = (tgt : Int)) (kt : ¬ a = b → W p l e R s m args below meth c H locs cells slots Q (F0 m tgt ls rest)) (kf : a = b → W p l e R s m args below meth c H locs cells slots Q (F0 m (pc + 1 + 3) ls rest)) : W p l e R s m args below meth c H locs cells slots Q (F0 m pc ls (.long (lI b) :: .long (lI a) :: rest)) := by
  have e1 := (lg_cmp_eq (lI a) (lI b)).trans (lI_eq ha hb1)
  have e2 := (lg_cmp_lt (lI a) (lI b)).trans (lI_lt ha hb1)
  have e3 := (lg_cmp_le (lI a) (lI b)).trans (lI_le ha hb1)
  have e4 := (lg_cmp_gt (lI a) (lI b)).trans (lI_lt hb1 ha)
  have e5 := (lg_cmp_ge (lI a) (lI b)).trans (lI_le hb1 ha)
  refine W.lcmp hx hb d0 ?_
  refine lv_if_ne (tgt := tgt) hx hb d ht (fun z => kt ?_) (fun z => kf ?_)
  · exact fun q => z (e1.mpr q)
  · exact e1.mp z
theorem xl_c_lt (hx : p.tables.exec = Jvm.exec) (hb : c.code = cc) {a b : Int} {off : Int} {tgt : Nat} (ha : LR a) (hb1 : LR b) (d0 : decode cc pc = .ok (.lcmp, 1)) (d : decode cc (pc + 1) = .ok (.ifCond .lt off, 3)) (ht : ((pc + 1 : Nat) : Int) + off = (tgt : Int)) (kt : a < b → W p l e R s m args below meth c H locs cells slots Q (F0 m tgt ls rest)) (kf : b ≤ a → W p l e R s m args below meth c H locs cells slots Q (F0 m (pc + 1 + 3) ls rest)) : W p l e R s m args below meth c H locs cells slots Q (F0 m pc ls (.long (lI b) :: .long (lI a) :: rest)) := by
  have e1 := (lg_cmp_eq (lI a) (lI b)).trans (lI_eq ha hb1)
  have e2 := (lg_cmp_lt (lI a) (lI b)).trans (lI_lt ha hb1)
  have e3 := (lg_cmp_le (lI a) (lI b)).trans (lI_le ha hb1)
  have e4 := (lg_cmp_gt (lI a) (lI b)).trans (lI_lt hb1 ha)
  have e5 := (lg_cmp_ge (lI a) (lI b)).trans (lI_le hb1 ha)
  refine W.lcmp hx hb d0 ?_
  refine lv_if_lt (tgt := tgt) hx hb d ht (fun z => kt ?_) (fun z => kf ?_)
  · first | exact e2.mp z | exact e3.mp z | exact e4.mp z | exact e5.mp z
  · exact Int.not_lt.mp (fun w => z (e2.mpr w))
theorem xl_c_ge (hx : p.tables.exec = Jvm.exec) (hb : c.code = cc) {a b : Int} {off : Int} {tgt : Nat} (ha : LR a) (hb1 : LR b) (d0 : decode cc pc = .ok (.lcmp, 1)) (d : decode cc (pc + 1) = .ok (.ifCond .ge off, 3)) (ht : ((pc + 1 : Nat) : Int) + off = (tgt : Int)) (kt : b ≤ a → W p l e R s m args below meth c H locs cells slots Q (F0 m tgt ls rest)) (kf : a < b → W p l e R s m args below meth c H locs cells slots Q (F0 m (pc + 1 + 3) ls rest)) : W p l e R s m args below meth c H locs cells slots Q (F0 m pc ls (.long (lI b) :: .long (lI a) :: rest)) := by
  have e1 := (lg_cmp_eq (lI a) (lI b)).trans (lI_eq ha hb1)
  have e2 := (lg_cmp_lt (lI a) (lI b)).trans (lI_lt ha hb1)
  have e3 := (lg_cmp_le (lI a) (lI b)).trans (lI_le ha hb1)
  have e4 := (lg_cmp_gt (lI a) (lI b)).trans (lI_lt hb1 ha)
  have e5 := (lg_cmp_ge (lI a) (lI b)).trans (lI_le hb1 ha)
  refine W.lcmp hx hb d0 ?_
  refine lv_if_ge (tgt := tgt) hx hb d ht (fun z => kt ?_) (fun z => kf ?_)
  · first | exact e2.mp z | exact e3.mp z | exact e4.mp z | exact e5.mp z
  · exact Int.not_le.mp (fun w => z (e5.mpr w))
theorem xl_c_gt (hx : p.tables.exec = Jvm.exec) (hb : c.code = cc) {a b : Int} {off : Int} {tgt : Nat} (ha : LR a) (hb1 : LR b) (d0 : decode cc pc = .ok (.lcmp, 1)) (d : decode cc (pc + 1) = .ok (.ifCond .gt off, 3)) (ht : ((pc + 1 : Nat) : Int) + off = (tgt : Int)) (kt : b < a → W p l e R s m args below meth c H locs cells slots Q (F0 m tgt ls rest)) (kf : a ≤ b → W p l e R s m args below meth c H locs cells slots Q (F0 m (pc + 1 + 3) ls rest)) : W p l e R s m args below meth c H locs cells slots Q (F0 m pc ls (.long (lI b) :: .long (lI a) :: rest)) := by
  have e1 := (lg_cmp_eq (lI a) (lI b)).trans (lI_eq ha hb1)
  have e2 := (lg_cmp_lt (lI a) (lI b)).trans (lI_lt ha hb1)
  have e3 := (lg_cmp_le (lI a) (lI b)).trans (lI_le ha hb1)
  have e4 := (lg_cmp_gt (lI a) (lI b)).trans (lI_lt hb1 ha)
  have e5 := (lg_cmp_ge (lI a) (lI b)).trans (lI_le hb1 ha)
  refine W.lcmp hx hb d0 ?_
  refine lv_if_gt (tgt := tgt) hx hb d ht (fun z => kt ?_) (fun z => kf ?_)
  · first | exact e2.mp z | exact e3.mp z | exact e4.mp z | exact e5.mp z
  · exact Int.not_lt.mp (fun w => z (e4.mpr w))
theorem xl_c_le (hx : p.tables.exec = Jvm.exec) (hb : c.code = cc) {a b : Int} {off : Int} {tgt : Nat} (ha : LR a) (hb1 : LR b) (d0 : decode cc pc = .ok (.lcmp, 1)) (d : decode cc (pc + 1) = .ok (.ifCond .le off, 3)) (ht : ((pc + 1 : Nat) : Int) + off = (tgt : Int)) (kt : a ≤ b → W p l e R s m args below meth c H locs cells slots Q (F0 m tgt ls rest)) (kf : b < a → W p l e R s m args below meth c H locs cells slots Q (F0 m (pc + 1 + 3) ls rest)) : W p l e R s m args below meth c H locs cells slots Q (F0 m pc ls (.long (lI b) :: .long (lI a) :: rest)) := by
  have e1 := (lg_cmp_eq (lI a) (lI b)).trans (lI_eq ha hb1)
  have e2 := (lg_cmp_lt (lI a) (lI b)).trans (lI_lt ha hb1)
  have e3 := (lg_cmp_le (lI a) (lI b)).trans (lI_le ha hb1)
  have e4 := (lg_cmp_gt (lI a) (lI b)).trans (lI_lt hb1 ha)
  have e5 := (lg_cmp_ge (lI a) (lI b)).trans (lI_le hb1 ha)
  refine W.lcmp hx hb d0 ?_
  refine lv_if_le (tgt := tgt) hx hb d ht (fun z => kt ?_) (fun z => kf ?_)
  · first | exact e2.mp z | exact e3.mp z | exact e4.mp z | exact e5.mp z
  · exact Int.not_le.mp (fun w => z (e3.mpr w))
theorem xi_ald (hx : p.tables.exec = Jvm.exec) (hb : c.code = cc) (hK : KX g s) {ws : va_W} (hP : va_P g.1 vwCl ws H) (q0 : Nat) {a n : Nat} {f : Int → Int} (ha : ws[q0]? = some (a, .inl (g.2.1, n, .inl (ar f)))) {i : Int} (hi : 0 ≤ i ∧ i < n) (hn : Nat.ble n 2147483647 = true) (d : decode cc pc = .ok (.iaload, 1)) (k : W p l e R s m args below meth c H locs cells slots Q (F0 m (pc + 1) ls (.int (iI (f i)) :: rest))) : W p l e R s m args below meth c H locs cells slots Q (F0 m pc ls (.int (iI i) :: .ref a :: rest)) := by
  have h1 : i ≤ 2147483647 := by have := Nat.le_of_ble_eq_true hn; omega
  refine va_iald hx hb hK.1 hP q0 0 ha rfl (iI_in hi.1 hi.2 hn) d ?_
  rw [ar_at hi.1 h1]
  exact k
theorem xi_ast (hx : p.tables.exec = Jvm.exec) (hb : c.code = cc) (hK : KX g s) {ws : va_W} {A : Nat → Prop} {H0 : Heap} (hP : va_P g.1 vwCl ws H) (hD : va_D A ws) (hS : va_S A H0 H locs) (q0 : Nat) {a n : Nat} {f : Int → Int} (ha : ws[q0]? = some (a, .inl (g.2.1, n, .inl (ar f)))) {i v : Int} (hi : 0 ≤ i ∧ i < n) (hn : Nat.ble n 2147483647 = true) (d : decode cc pc = .ok (.iastore, 1)) (k : ∀ (H1 : Heap) (locs1 : List Loc), va_P g.1 vwCl (ws.set q0 (a, .inl (g.2.1, n, .inl (ar (up f i v))))) H1 → va_D A (ws.set q0 (a, .inl (g.2.1, n, .inl (ar (up f i v))))) → va_S A H0 H1 locs1 → W p l e R s m args below meth c H1 locs1 cells slots Q (F0 m (pc + 1) ls rest)) : W p l e R s m args below meth c H locs cells slots Q (F0 m pc ls (.int (iI v) :: .int (iI i) :: .ref a :: rest)) := by
  have h1 : i ≤ 2147483647 := by have := Nat.le_of_ble_eq_true hn; omega
  refine va_iast hx hb hK.1 hP hD hS q0 0 ha rfl (iI_in hi.1 hi.2 hn) d (fun H1 locs1 h2 h3 h4 => ?_)
  rw [ar_up hi.1 h1] at h2 h3
  exact k H1 locs1 h2 h3 h4
theorem xl_ald (hx : p.tables.exec = Jvm.exec) (hb : c.code = cc) (hK : KX g s) {ws : va_W} (hP : va_P g.1 vwCl ws H) (q0 : Nat) {a n : Nat} {f : Int → Int} (ha : ws[q0]? = some (a, .inl (g.2.2.1, n, .inr (.inl (la f))))) {i : Int} (hi : 0 ≤ i ∧ i < n) (hn : Nat.ble n 2147483647 = true) (d : decode cc pc = .ok (.laload, 1)) (k : W p l e R s m args below meth c H locs cells slots Q (F0 m (pc + 1) ls (.long (lI (f i)) :: rest))) : W p l e R s m args below meth c H locs cells slots Q (F0 m pc ls (.int (iI i) :: .ref a :: rest)) := by
  have h1 : i ≤ 2147483647 := by have := Nat.le_of_ble_eq_true hn; omega
  refine va_lald hx hb hK.1 hP q0 1 ha rfl (iI_in hi.1 hi.2 hn) d ?_
  rw [la_at hi.1 h1]
  exact k
theorem xl_ast (hx : p.tables.exec = Jvm.exec) (hb : c.code = cc) (hK : KX g s) {ws : va_W} {A : Nat → Prop} {H0 : Heap} (hP : va_P g.1 vwCl ws H) (hD : va_D A ws) (hS : va_S A H0 H locs) (q0 : Nat) {a n : Nat} {f : Int → Int} (ha : ws[q0]? = some (a, .inl (g.2.2.1, n, .inr (.inl (la f))))) {i v : Int} (hi : 0 ≤ i ∧ i < n) (hn : Nat.ble n 2147483647 = true) (d : decode cc pc = .ok (.lastore, 1)) (k : ∀ (H1 : Heap) (locs1 : List Loc), va_P g.1 vwCl (ws.set q0 (a, .inl (g.2.2.1, n, .inr (.inl (la (up f i v)))))) H1 → va_D A (ws.set q0 (a, .inl (g.2.2.1, n, .inr (.inl (la (up f i v)))))) → va_S A H0 H1 locs1 → W p l e R s m args below meth c H1 locs1 cells slots Q (F0 m (pc + 1) ls rest)) : W p l e R s m args below meth c H locs cells slots Q (F0 m pc ls (.long (lI v) :: .int (iI i) :: .ref a :: rest)) := by
  have h1 : i ≤ 2147483647 := by have := Nat.le_of_ble_eq_true hn; omega
  refine va_last hx hb hK.1 hP hD hS q0 1 ha rfl (iI_in hi.1 hi.2 hn) d (fun H1 locs1 h2 h3 h4 => ?_)
  rw [la_up hi.1 h1] at h2 h3
  exact k H1 locs1 h2 h3 h4
theorem xi_ldc (hx : p.tables.exec = Jvm.exec) (hb : c.code = cc) {own : String} {index : Nat} {v : Int} (hown : s.vm.findClass own = some m.cls) (hts : ∀ w ∈ T0, w.before args s = true) (hc : Cond.constant own index (iI v) ∈ T0) (d : decode cc pc = .ok (.ldc index, 2)) (k : W p l e R s m args below meth c H locs cells slots Q (F0 m (pc + 2) ls (.int (iI v) :: rest))) : W p l e R s m args below meth c H locs cells slots Q (F0 m pc ls rest) := lv_ldc hx hb hown (hts _ hc) d k
theorem xl_ldc (hx : p.tables.exec = Jvm.exec) (hb : c.code = cc) {own : String} {index : Nat} {v : Int} (hown : s.vm.findClass own = some m.cls) (hts : ∀ w ∈ T0, w.before args s = true) (hc : Cond.constantLong own index (lI v) ∈ T0) (d : decode cc pc = .ok (.ldc2_w index, 3)) (k : W p l e R s m args below meth c H locs cells slots Q (F0 m (pc + 3) ls (.long (lI v) :: rest))) : W p l e R s m args below meth c H locs cells slots Q (F0 m pc ls rest) := lv_ldc2 hx hb hown (hts _ hc) d k
theorem xi_inc (hx : p.tables.exec = Jvm.exec) (hb : c.code = cc) {i nL k : Nat} {n x : Int} {lv lv' : List (Nat × Value)} (d : decode cc pc = .ok (.iinc i n, 3)) (h : lv_has ls nL lv) (hk : lv[k]? = some (i, .int (iI x))) (hn : i < nL) (hl : (i, Value.int (iI (x + n))) :: lv.filter (fun q => !(q.1 == i) && !(q.1 + 1 == i && q.2.category == 2)) = lv') (kk : ∀ ls' : Array Slot, lv_has ls' nL lv' → W p l e R s m args below meth c H locs cells slots Q (F0 m (pc + 3) ls' rest)) : W p l e R s m args below meth c H locs cells slots Q (F0 m pc ls rest) := lv_iinc hx hb d h hk (v := iI (x + n)) (iI_add x n) hn hl kk

theorem uw_X0 : ∀ w ∈ u_ws RX0 TX0 3, w ∈ T0 := by decide +kernel
theorem xg_X0 (hx : p.tables.exec = Jvm.exec) (hb : c.code = cc) (hts : ∀ w ∈ T0, w.before args s = true) {own : String} (hown : s.vm.findClass own = some m.cls) (hK : KX g s) {ws : va_W} (hP : va_P g.1 vwCl ws H) (q0 : Nat) {a index : Nat} {fs : List Value} (he : ws[q0]? = some (a, .inr (0, fs))) (k : Nat) (hk : k < 3) (hf : Cond.fieldLink own index (TX0 k).1 (TX0 k).2.1 (TX0 k).2.2.1 ∈ T0) {v : Value} (hv : fs[k]? = some v) (d : decode cc pc = .ok (.getfield index, 3)) (kk : W p l e R s m args below meth c H locs cells slots Q (F0 m (pc + 3) ls (v :: rest))) : W p l e R s m args below meth c H locs cells slots Q (F0 m pc ls (.ref a :: rest)) := va_get (C := RX0) (T := TX0) (N := 3) hx hb hts uw_X0 hown hK.1 hP q0 he rfl k hk (hts _ hf) (fun _ h => h) hv d kk
theorem xgN_X0 (hx : p.tables.exec = Jvm.exec) (hb : c.code = cc) (hts : ∀ w ∈ T0, w.before args s = true) {own host : String} (hown : s.vm.findClass own = some m.cls) (hK : KX g s) {ws : va_W} (hP : va_P g.1 vwCl ws H) (q0 : Nat) {a index : Nat} {fs : List Value} (he : ws[q0]? = some (a, .inr (0, fs))) (k : Nat) (hk : k < 3) (hf : Cond.fieldLinkNest own index (TX0 k).1 (TX0 k).2.1 (TX0 k).2.2.1 host ∈ NT) {v : Value} (hv : fs[k]? = some v) (d : decode cc pc = .ok (.getfield index, 3)) (kk : W p l e R s m args below meth c H locs cells slots Q (F0 m (pc + 3) ls (v :: rest))) : W p l e R s m args below meth c H locs cells slots Q (F0 m pc ls (.ref a :: rest)) := va_getN (C := RX0) (T := TX0) (N := 3) hx hb hts uw_X0 hown hK.1 hP q0 he rfl k hk (va_Nw.use rfl (hK.2 _ hf)) (fun _ h => h) hv d kk
theorem xp_X0 (hx : p.tables.exec = Jvm.exec) (hb : c.code = cc) (hts : ∀ w ∈ T0, w.before args s = true) {own : String} (hown : s.vm.findClass own = some m.cls) (hK : KX g s) {ws : va_W} {A : Nat → Prop} {H0 : Heap} (hP : va_P g.1 vwCl ws H) (hD : va_D A ws) (hS : va_S A H0 H locs) (q0 : Nat) {a index : Nat} {fs : List Value} (he : ws[q0]? = some (a, .inr (0, fs))) (k : Nat) (hk : k < 3) (hf : Cond.fieldLink own index (TX0 k).1 (TX0 k).2.1 (TX0 k).2.2.1 ∈ T0) (hfin : (TX0 k).2.2.2 = false) {v : Value} (hn : narrow (tyX0 k) v = v) (hfit : fits (tyX0 k) v = true) (hl : k < fs.length) (d : decode cc pc = .ok (.putfield index, 3)) (kk : ∀ (H1 : Heap) (locs1 : List Loc), va_P g.1 vwCl (ws.set q0 (a, .inr (0, fs.set k v))) H1 → va_D A (ws.set q0 (a, .inr (0, fs.set k v))) → va_S A H0 H1 locs1 → W p l e R s m args below meth c H1 locs1 cells slots Q (F0 m (pc + 3) ls rest)) : W p l e R s m args below meth c H locs cells slots Q (F0 m pc ls (v :: .ref a :: rest)) := va_put (C := RX0) (T := TX0) (N := 3) hx hb hts uw_X0 tyX0 tyX0_ok nmX0 hown hK.1 hP hD hS q0 he rfl k hk (hts _ hf) (fun _ h => h) hfin (tyX0_ok k hk) hn hfit hl d kk
theorem xpN_X0 (hx : p.tables.exec = Jvm.exec) (hb : c.code = cc) (hts : ∀ w ∈ T0, w.before args s = true) {own host : String} (hown : s.vm.findClass own = some m.cls) (hK : KX g s) {ws : va_W} {A : Nat → Prop} {H0 : Heap} (hP : va_P g.1 vwCl ws H) (hD : va_D A ws) (hS : va_S A H0 H locs) (q0 : Nat) {a index : Nat} {fs : List Value} (he : ws[q0]? = some (a, .inr (0, fs))) (k : Nat) (hk : k < 3) (hf : Cond.fieldLinkNest own index (TX0 k).1 (TX0 k).2.1 (TX0 k).2.2.1 host ∈ NT) (hfin : (TX0 k).2.2.2 = false) {v : Value} (hn : narrow (tyX0 k) v = v) (hfit : fits (tyX0 k) v = true) (hl : k < fs.length) (d : decode cc pc = .ok (.putfield index, 3)) (kk : ∀ (H1 : Heap) (locs1 : List Loc), va_P g.1 vwCl (ws.set q0 (a, .inr (0, fs.set k v))) H1 → va_D A (ws.set q0 (a, .inr (0, fs.set k v))) → va_S A H0 H1 locs1 → W p l e R s m args below meth c H1 locs1 cells slots Q (F0 m (pc + 3) ls rest)) : W p l e R s m args below meth c H locs cells slots Q (F0 m pc ls (v :: .ref a :: rest)) := va_putN (C := RX0) (T := TX0) (N := 3) hx hb hts uw_X0 tyX0 tyX0_ok nmX0 hown hK.1 hP hD hS q0 he rfl k hk (va_Nw.use rfl (hK.2 _ hf)) (fun _ h => h) hfin (tyX0_ok k hk) hn hfit hl d kk
theorem uw_X1 : ∀ w ∈ u_ws RX1 TX1 14, w ∈ T0 := by decide +kernel
theorem xg_X1 (hx : p.tables.exec = Jvm.exec) (hb : c.code = cc) (hts : ∀ w ∈ T0, w.before args s = true) {own : String} (hown : s.vm.findClass own = some m.cls) (hK : KX g s) {ws : va_W} (hP : va_P g.1 vwCl ws H) (q0 : Nat) {a index : Nat} {fs : List Value} (he : ws[q0]? = some (a, .inr (1, fs))) (k : Nat) (hk : k < 14) (hf : Cond.fieldLink own index (TX1 k).1 (TX1 k).2.1 (TX1 k).2.2.1 ∈ T0) {v : Value} (hv : fs[k]? = some v) (d : decode cc pc = .ok (.getfield index, 3)) (kk : W p l e R s m args below meth c H locs cells slots Q (F0 m (pc + 3) ls (v :: rest))) : W p l e R s m args below meth c H locs cells slots Q (F0 m pc ls (.ref a :: rest)) := va_get (C := RX1) (T := TX1) (N := 14) hx hb hts uw_X1 hown hK.1 hP q0 he rfl k hk (hts _ hf) (fun _ h => h) hv d kk
theorem xgN_X1 (hx : p.tables.exec = Jvm.exec) (hb : c.code = cc) (hts : ∀ w ∈ T0, w.before args s = true) {own host : String} (hown : s.vm.findClass own = some m.cls) (hK : KX g s) {ws : va_W} (hP : va_P g.1 vwCl ws H) (q0 : Nat) {a index : Nat} {fs : List Value} (he : ws[q0]? = some (a, .inr (1, fs))) (k : Nat) (hk : k < 14) (hf : Cond.fieldLinkNest own index (TX1 k).1 (TX1 k).2.1 (TX1 k).2.2.1 host ∈ NT) {v : Value} (hv : fs[k]? = some v) (d : decode cc pc = .ok (.getfield index, 3)) (kk : W p l e R s m args below meth c H locs cells slots Q (F0 m (pc + 3) ls (v :: rest))) : W p l e R s m args below meth c H locs cells slots Q (F0 m pc ls (.ref a :: rest)) := va_getN (C := RX1) (T := TX1) (N := 14) hx hb hts uw_X1 hown hK.1 hP q0 he rfl k hk (va_Nw.use rfl (hK.2 _ hf)) (fun _ h => h) hv d kk
theorem xp_X1 (hx : p.tables.exec = Jvm.exec) (hb : c.code = cc) (hts : ∀ w ∈ T0, w.before args s = true) {own : String} (hown : s.vm.findClass own = some m.cls) (hK : KX g s) {ws : va_W} {A : Nat → Prop} {H0 : Heap} (hP : va_P g.1 vwCl ws H) (hD : va_D A ws) (hS : va_S A H0 H locs) (q0 : Nat) {a index : Nat} {fs : List Value} (he : ws[q0]? = some (a, .inr (1, fs))) (k : Nat) (hk : k < 14) (hf : Cond.fieldLink own index (TX1 k).1 (TX1 k).2.1 (TX1 k).2.2.1 ∈ T0) (hfin : (TX1 k).2.2.2 = false) {v : Value} (hn : narrow (tyX1 k) v = v) (hfit : fits (tyX1 k) v = true) (hl : k < fs.length) (d : decode cc pc = .ok (.putfield index, 3)) (kk : ∀ (H1 : Heap) (locs1 : List Loc), va_P g.1 vwCl (ws.set q0 (a, .inr (1, fs.set k v))) H1 → va_D A (ws.set q0 (a, .inr (1, fs.set k v))) → va_S A H0 H1 locs1 → W p l e R s m args below meth c H1 locs1 cells slots Q (F0 m (pc + 3) ls rest)) : W p l e R s m args below meth c H locs cells slots Q (F0 m pc ls (v :: .ref a :: rest)) := va_put (C := RX1) (T := TX1) (N := 14) hx hb hts uw_X1 tyX1 tyX1_ok nmX1 hown hK.1 hP hD hS q0 he rfl k hk (hts _ hf) (fun _ h => h) hfin (tyX1_ok k hk) hn hfit hl d kk
theorem xpN_X1 (hx : p.tables.exec = Jvm.exec) (hb : c.code = cc) (hts : ∀ w ∈ T0, w.before args s = true) {own host : String} (hown : s.vm.findClass own = some m.cls) (hK : KX g s) {ws : va_W} {A : Nat → Prop} {H0 : Heap} (hP : va_P g.1 vwCl ws H) (hD : va_D A ws) (hS : va_S A H0 H locs) (q0 : Nat) {a index : Nat} {fs : List Value} (he : ws[q0]? = some (a, .inr (1, fs))) (k : Nat) (hk : k < 14) (hf : Cond.fieldLinkNest own index (TX1 k).1 (TX1 k).2.1 (TX1 k).2.2.1 host ∈ NT) (hfin : (TX1 k).2.2.2 = false) {v : Value} (hn : narrow (tyX1 k) v = v) (hfit : fits (tyX1 k) v = true) (hl : k < fs.length) (d : decode cc pc = .ok (.putfield index, 3)) (kk : ∀ (H1 : Heap) (locs1 : List Loc), va_P g.1 vwCl (ws.set q0 (a, .inr (1, fs.set k v))) H1 → va_D A (ws.set q0 (a, .inr (1, fs.set k v))) → va_S A H0 H1 locs1 → W p l e R s m args below meth c H1 locs1 cells slots Q (F0 m (pc + 3) ls rest)) : W p l e R s m args below meth c H locs cells slots Q (F0 m pc ls (v :: .ref a :: rest)) := va_putN (C := RX1) (T := TX1) (N := 14) hx hb hts uw_X1 tyX1 tyX1_ok nmX1 hown hK.1 hP hD hS q0 he rfl k hk (va_Nw.use rfl (hK.2 _ hf)) (fun _ h => h) hfin (tyX1_ok k hk) hn hfit hl d kk
theorem uw_X2 : ∀ w ∈ u_ws RX2 TX2 3, w ∈ T0 := by decide +kernel
theorem xg_X2 (hx : p.tables.exec = Jvm.exec) (hb : c.code = cc) (hts : ∀ w ∈ T0, w.before args s = true) {own : String} (hown : s.vm.findClass own = some m.cls) (hK : KX g s) {ws : va_W} (hP : va_P g.1 vwCl ws H) (q0 : Nat) {a index : Nat} {fs : List Value} (he : ws[q0]? = some (a, .inr (2, fs))) (k : Nat) (hk : k < 3) (hf : Cond.fieldLink own index (TX2 k).1 (TX2 k).2.1 (TX2 k).2.2.1 ∈ T0) {v : Value} (hv : fs[k]? = some v) (d : decode cc pc = .ok (.getfield index, 3)) (kk : W p l e R s m args below meth c H locs cells slots Q (F0 m (pc + 3) ls (v :: rest))) : W p l e R s m args below meth c H locs cells slots Q (F0 m pc ls (.ref a :: rest)) := va_get (C := RX2) (T := TX2) (N := 3) hx hb hts uw_X2 hown hK.1 hP q0 he rfl k hk (hts _ hf) (fun _ h => h) hv d kk
theorem xgN_X2 (hx : p.tables.exec = Jvm.exec) (hb : c.code = cc) (hts : ∀ w ∈ T0, w.before args s = true) {own host : String} (hown : s.vm.findClass own = some m.cls) (hK : KX g s) {ws : va_W} (hP : va_P g.1 vwCl ws H) (q0 : Nat) {a index : Nat} {fs : List Value} (he : ws[q0]? = some (a, .inr (2, fs))) (k : Nat) (hk : k < 3) (hf : Cond.fieldLinkNest own index (TX2 k).1 (TX2 k).2.1 (TX2 k).2.2.1 host ∈ NT) {v : Value} (hv : fs[k]? = some v) (d : decode cc pc = .ok (.getfield index, 3)) (kk : W p l e R s m args below meth c H locs cells slots Q (F0 m (pc + 3) ls (v :: rest))) : W p l e R s m args below meth c H locs cells slots Q (F0 m pc ls (.ref a :: rest)) := va_getN (C := RX2) (T := TX2) (N := 3) hx hb hts uw_X2 hown hK.1 hP q0 he rfl k hk (va_Nw.use rfl (hK.2 _ hf)) (fun _ h => h) hv d kk
theorem xp_X2 (hx : p.tables.exec = Jvm.exec) (hb : c.code = cc) (hts : ∀ w ∈ T0, w.before args s = true) {own : String} (hown : s.vm.findClass own = some m.cls) (hK : KX g s) {ws : va_W} {A : Nat → Prop} {H0 : Heap} (hP : va_P g.1 vwCl ws H) (hD : va_D A ws) (hS : va_S A H0 H locs) (q0 : Nat) {a index : Nat} {fs : List Value} (he : ws[q0]? = some (a, .inr (2, fs))) (k : Nat) (hk : k < 3) (hf : Cond.fieldLink own index (TX2 k).1 (TX2 k).2.1 (TX2 k).2.2.1 ∈ T0) (hfin : (TX2 k).2.2.2 = false) {v : Value} (hn : narrow (tyX2 k) v = v) (hfit : fits (tyX2 k) v = true) (hl : k < fs.length) (d : decode cc pc = .ok (.putfield index, 3)) (kk : ∀ (H1 : Heap) (locs1 : List Loc), va_P g.1 vwCl (ws.set q0 (a, .inr (2, fs.set k v))) H1 → va_D A (ws.set q0 (a, .inr (2, fs.set k v))) → va_S A H0 H1 locs1 → W p l e R s m args below meth c H1 locs1 cells slots Q (F0 m (pc + 3) ls rest)) : W p l e R s m args below meth c H locs cells slots Q (F0 m pc ls (v :: .ref a :: rest)) := va_put (C := RX2) (T := TX2) (N := 3) hx hb hts uw_X2 tyX2 tyX2_ok nmX2 hown hK.1 hP hD hS q0 he rfl k hk (hts _ hf) (fun _ h => h) hfin (tyX2_ok k hk) hn hfit hl d kk
theorem xpN_X2 (hx : p.tables.exec = Jvm.exec) (hb : c.code = cc) (hts : ∀ w ∈ T0, w.before args s = true) {own host : String} (hown : s.vm.findClass own = some m.cls) (hK : KX g s) {ws : va_W} {A : Nat → Prop} {H0 : Heap} (hP : va_P g.1 vwCl ws H) (hD : va_D A ws) (hS : va_S A H0 H locs) (q0 : Nat) {a index : Nat} {fs : List Value} (he : ws[q0]? = some (a, .inr (2, fs))) (k : Nat) (hk : k < 3) (hf : Cond.fieldLinkNest own index (TX2 k).1 (TX2 k).2.1 (TX2 k).2.2.1 host ∈ NT) (hfin : (TX2 k).2.2.2 = false) {v : Value} (hn : narrow (tyX2 k) v = v) (hfit : fits (tyX2 k) v = true) (hl : k < fs.length) (d : decode cc pc = .ok (.putfield index, 3)) (kk : ∀ (H1 : Heap) (locs1 : List Loc), va_P g.1 vwCl (ws.set q0 (a, .inr (2, fs.set k v))) H1 → va_D A (ws.set q0 (a, .inr (2, fs.set k v))) → va_S A H0 H1 locs1 → W p l e R s m args below meth c H1 locs1 cells slots Q (F0 m (pc + 3) ls rest)) : W p l e R s m args below meth c H locs cells slots Q (F0 m pc ls (v :: .ref a :: rest)) := va_putN (C := RX2) (T := TX2) (N := 3) hx hb hts uw_X2 tyX2 tyX2_ok nmX2 hown hK.1 hP hD hS q0 he rfl k hk (va_Nw.use rfl (hK.2 _ hf)) (fun _ h => h) hfin (tyX2_ok k hk) hn hfit hl d kk
theorem uw_X3 : ∀ w ∈ u_ws RX3 TX3 6, w ∈ T0 := by decide +kernel
theorem xg_X3 (hx : p.tables.exec = Jvm.exec) (hb : c.code = cc) (hts : ∀ w ∈ T0, w.before args s = true) {own : String} (hown : s.vm.findClass own = some m.cls) (hK : KX g s) {ws : va_W} (hP : va_P g.1 vwCl ws H) (q0 : Nat) {a index : Nat} {fs : List Value} (he : ws[q0]? = some (a, .inr (3, fs))) (k : Nat) (hk : k < 6) (hf : Cond.fieldLink own index (TX3 k).1 (TX3 k).2.1 (TX3 k).2.2.1 ∈ T0) {v : Value} (hv : fs[k]? = some v) (d : decode cc pc = .ok (.getfield index, 3)) (kk : W p l e R s m args below meth c H locs cells slots Q (F0 m (pc + 3) ls (v :: rest))) : W p l e R s m args below meth c H locs cells slots Q (F0 m pc ls (.ref a :: rest)) := va_get (C := RX3) (T := TX3) (N := 6) hx hb hts uw_X3 hown hK.1 hP q0 he rfl k hk (hts _ hf) (fun _ h => h) hv d kk
theorem xgN_X3 (hx : p.tables.exec = Jvm.exec) (hb : c.code = cc) (hts : ∀ w ∈ T0, w.before args s = true) {own host : String} (hown : s.vm.findClass own = some m.cls) (hK : KX g s) {ws : va_W} (hP : va_P g.1 vwCl ws H) (q0 : Nat) {a index : Nat} {fs : List Value} (he : ws[q0]? = some (a, .inr (3, fs))) (k : Nat) (hk : k < 6) (hf : Cond.fieldLinkNest own index (TX3 k).1 (TX3 k).2.1 (TX3 k).2.2.1 host ∈ NT) {v : Value} (hv : fs[k]? = some v) (d : decode cc pc = .ok (.getfield index, 3)) (kk : W p l e R s m args below meth c H locs cells slots Q (F0 m (pc + 3) ls (v :: rest))) : W p l e R s m args below meth c H locs cells slots Q (F0 m pc ls (.ref a :: rest)) := va_getN (C := RX3) (T := TX3) (N := 6) hx hb hts uw_X3 hown hK.1 hP q0 he rfl k hk (va_Nw.use rfl (hK.2 _ hf)) (fun _ h => h) hv d kk
theorem xp_X3 (hx : p.tables.exec = Jvm.exec) (hb : c.code = cc) (hts : ∀ w ∈ T0, w.before args s = true) {own : String} (hown : s.vm.findClass own = some m.cls) (hK : KX g s) {ws : va_W} {A : Nat → Prop} {H0 : Heap} (hP : va_P g.1 vwCl ws H) (hD : va_D A ws) (hS : va_S A H0 H locs) (q0 : Nat) {a index : Nat} {fs : List Value} (he : ws[q0]? = some (a, .inr (3, fs))) (k : Nat) (hk : k < 6) (hf : Cond.fieldLink own index (TX3 k).1 (TX3 k).2.1 (TX3 k).2.2.1 ∈ T0) (hfin : (TX3 k).2.2.2 = false) {v : Value} (hn : narrow (tyX3 k) v = v) (hfit : fits (tyX3 k) v = true) (hl : k < fs.length) (d : decode cc pc = .ok (.putfield index, 3)) (kk : ∀ (H1 : Heap) (locs1 : List Loc), va_P g.1 vwCl (ws.set q0 (a, .inr (3, fs.set k v))) H1 → va_D A (ws.set q0 (a, .inr (3, fs.set k v))) → va_S A H0 H1 locs1 → W p l e R s m args below meth c H1 locs1 cells slots Q (F0 m (pc + 3) ls rest)) : W p l e R s m args below meth c H locs cells slots Q (F0 m pc ls (v :: .ref a :: rest)) := va_put (C := RX3) (T := TX3) (N := 6) hx hb hts uw_X3 tyX3 tyX3_ok nmX3 hown hK.1 hP hD hS q0 he rfl k hk (hts _ hf) (fun _ h => h) hfin (tyX3_ok k hk) hn hfit hl d kk
theorem xpN_X3 (hx : p.tables.exec = Jvm.exec) (hb : c.code = cc) (hts : ∀ w ∈ T0, w.before args s = true) {own host : String} (hown : s.vm.findClass own = some m.cls) (hK : KX g s) {ws : va_W} {A : Nat → Prop} {H0 : Heap} (hP : va_P g.1 vwCl ws H) (hD : va_D A ws) (hS : va_S A H0 H locs) (q0 : Nat) {a index : Nat} {fs : List Value} (he : ws[q0]? = some (a, .inr (3, fs))) (k : Nat) (hk : k < 6) (hf : Cond.fieldLinkNest own index (TX3 k).1 (TX3 k).2.1 (TX3 k).2.2.1 host ∈ NT) (hfin : (TX3 k).2.2.2 = false) {v : Value} (hn : narrow (tyX3 k) v = v) (hfit : fits (tyX3 k) v = true) (hl : k < fs.length) (d : decode cc pc = .ok (.putfield index, 3)) (kk : ∀ (H1 : Heap) (locs1 : List Loc), va_P g.1 vwCl (ws.set q0 (a, .inr (3, fs.set k v))) H1 → va_D A (ws.set q0 (a, .inr (3, fs.set k v))) → va_S A H0 H1 locs1 → W p l e R s m args below meth c H1 locs1 cells slots Q (F0 m (pc + 3) ls rest)) : W p l e R s m args below meth c H locs cells slots Q (F0 m pc ls (v :: .ref a :: rest)) := va_putN (C := RX3) (T := TX3) (N := 6) hx hb hts uw_X3 tyX3 tyX3_ok nmX3 hown hK.1 hP hD hS q0 he rfl k hk (va_Nw.use rfl (hK.2 _ hf)) (fun _ h => h) hfin (tyX3_ok k hk) hn hfit hl d kk
theorem uw_X4 : ∀ w ∈ u_ws RX4 TX4 7, w ∈ T0 := by decide +kernel
theorem xg_X4 (hx : p.tables.exec = Jvm.exec) (hb : c.code = cc) (hts : ∀ w ∈ T0, w.before args s = true) {own : String} (hown : s.vm.findClass own = some m.cls) (hK : KX g s) {ws : va_W} (hP : va_P g.1 vwCl ws H) (q0 : Nat) {a index : Nat} {fs : List Value} (he : ws[q0]? = some (a, .inr (4, fs))) (k : Nat) (hk : k < 7) (hf : Cond.fieldLink own index (TX4 k).1 (TX4 k).2.1 (TX4 k).2.2.1 ∈ T0) {v : Value} (hv : fs[k]? = some v) (d : decode cc pc = .ok (.getfield index, 3)) (kk : W p l e R s m args below meth c H locs cells slots Q (F0 m (pc + 3) ls (v :: rest))) : W p l e R s m args below meth c H locs cells slots Q (F0 m pc ls (.ref a :: rest)) := va_get (C := RX4) (T := TX4) (N := 7) hx hb hts uw_X4 hown hK.1 hP q0 he rfl k hk (hts _ hf) (fun _ h => h) hv d kk
theorem xgN_X4 (hx : p.tables.exec = Jvm.exec) (hb : c.code = cc) (hts : ∀ w ∈ T0, w.before args s = true) {own host : String} (hown : s.vm.findClass own = some m.cls) (hK : KX g s) {ws : va_W} (hP : va_P g.1 vwCl ws H) (q0 : Nat) {a index : Nat} {fs : List Value} (he : ws[q0]? = some (a, .inr (4, fs))) (k : Nat) (hk : k < 7) (hf : Cond.fieldLinkNest own index (TX4 k).1 (TX4 k).2.1 (TX4 k).2.2.1 host ∈ NT) {v : Value} (hv : fs[k]? = some v) (d : decode cc pc = .ok (.getfield index, 3)) (kk : W p l e R s m args below meth c H locs cells slots Q (F0 m (pc + 3) ls (v :: rest))) : W p l e R s m args below meth c H locs cells slots Q (F0 m pc ls (.ref a :: rest)) := va_getN (C := RX4) (T := TX4) (N := 7) hx hb hts uw_X4 hown hK.1 hP q0 he rfl k hk (va_Nw.use rfl (hK.2 _ hf)) (fun _ h => h) hv d kk
theorem xp_X4 (hx : p.tables.exec = Jvm.exec) (hb : c.code = cc) (hts : ∀ w ∈ T0, w.before args s = true) {own : String} (hown : s.vm.findClass own = some m.cls) (hK : KX g s) {ws : va_W} {A : Nat → Prop} {H0 : Heap} (hP : va_P g.1 vwCl ws H) (hD : va_D A ws) (hS : va_S A H0 H locs) (q0 : Nat) {a index : Nat} {fs : List Value} (he : ws[q0]? = some (a, .inr (4, fs))) (k : Nat) (hk : k < 7) (hf : Cond.fieldLink own index (TX4 k).1 (TX4 k).2.1 (TX4 k).2.2.1 ∈ T0) (hfin : (TX4 k).2.2.2 = false) {v : Value} (hn : narrow (tyX4 k) v = v) (hfit : fits (tyX4 k) v = true) (hl : k < fs.length) (d : decode cc pc = .ok (.putfield index, 3)) (kk : ∀ (H1 : Heap) (locs1 : List Loc), va_P g.1 vwCl (ws.set q0 (a, .inr (4, fs.set k v))) H1 → va_D A (ws.set q0 (a, .inr (4, fs.set k v))) → va_S A H0 H1 locs1 → W p l e R s m args below meth c H1 locs1 cells slots Q (F0 m (pc + 3) ls rest)) : W p l e R s m args below meth c H locs cells slots Q (F0 m pc ls (v :: .ref a :: rest)) := va_put (C := RX4) (T := TX4) (N := 7) hx hb hts uw_X4 tyX4 tyX4_ok nmX4 hown hK.1 hP hD hS q0 he rfl k hk (hts _ hf) (fun _ h => h) hfin (tyX4_ok k hk) hn hfit hl d kk
theorem xpN_X4 (hx : p.tables.exec = Jvm.exec) (hb : c.code = cc) (hts : ∀ w ∈ T0, w.before args s = true) {own host : String} (hown : s.vm.findClass own = some m.cls) (hK : KX g s) {ws : va_W} {A : Nat → Prop} {H0 : Heap} (hP : va_P g.1 vwCl ws H) (hD : va_D A ws) (hS : va_S A H0 H locs) (q0 : Nat) {a index : Nat} {fs : List Value} (he : ws[q0]? = some (a, .inr (4, fs))) (k : Nat) (hk : k < 7) (hf : Cond.fieldLinkNest own index (TX4 k).1 (TX4 k).2.1 (TX4 k).2.2.1 host ∈ NT) (hfin : (TX4 k).2.2.2 = false) {v : Value} (hn : narrow (tyX4 k) v = v) (hfit : fits (tyX4 k) v = true) (hl : k < fs.length) (d : decode cc pc = .ok (.putfield index, 3)) (kk : ∀ (H1 : Heap) (locs1 : List Loc), va_P g.1 vwCl (ws.set q0 (a, .inr (4, fs.set k v))) H1 → va_D A (ws.set q0 (a, .inr (4, fs.set k v))) → va_S A H0 H1 locs1 → W p l e R s m args below meth c H1 locs1 cells slots Q (F0 m (pc + 3) ls rest)) : W p l e R s m args below meth c H locs cells slots Q (F0 m pc ls (v :: .ref a :: rest)) := va_putN (C := RX4) (T := TX4) (N := 7) hx hb hts uw_X4 tyX4 tyX4_ok nmX4 hown hK.1 hP hD hS q0 he rfl k hk (va_Nw.use rfl (hK.2 _ hf)) (fun _ h => h) hfin (tyX4_ok k hk) hn hfit hl d kk
theorem uw_X5 : ∀ w ∈ u_ws RX5 TX5 19, w ∈ T0 := by decide +kernel
theorem xg_X5 (hx : p.tables.exec = Jvm.exec) (hb : c.code = cc) (hts : ∀ w ∈ T0, w.before args s = true) {own : String} (hown : s.vm.findClass own = some m.cls) (hK : KX g s) {ws : va_W} (hP : va_P g.1 vwCl ws H) (q0 : Nat) {a index : Nat} {fs : List Value} (he : ws[q0]? = some (a, .inr (5, fs))) (k : Nat) (hk : k < 19) (hf : Cond.fieldLink own index (TX5 k).1 (TX5 k).2.1 (TX5 k).2.2.1 ∈ T0) {v : Value} (hv : fs[k]? = some v) (d : decode cc pc = .ok (.getfield index, 3)) (kk : W p l e R s m args below meth c H locs cells slots Q (F0 m (pc + 3) ls (v :: rest))) : W p l e R s m args below meth c H locs cells slots Q (F0 m pc ls (.ref a :: rest)) := va_get (C := RX5) (T := TX5) (N := 19) hx hb hts uw_X5 hown hK.1 hP q0 he rfl k hk (hts _ hf) (fun _ h => h) hv d kk
theorem xgN_X5 (hx : p.tables.exec = Jvm.exec) (hb : c.code = cc) (hts : ∀ w ∈ T0, w.before args s = true) {own host : String} (hown : s.vm.findClass own = some m.cls) (hK : KX g s) {ws : va_W} (hP : va_P g.1 vwCl ws H) (q0 : Nat) {a index : Nat} {fs : List Value} (he : ws[q0]? = some (a, .inr (5, fs))) (k : Nat) (hk : k < 19) (hf : Cond.fieldLinkNest own index (TX5 k).1 (TX5 k).2.1 (TX5 k).2.2.1 host ∈ NT) {v : Value} (hv : fs[k]? = some v) (d : decode cc pc = .ok (.getfield index, 3)) (kk : W p l e R s m args below meth c H locs cells slots Q (F0 m (pc + 3) ls (v :: rest))) : W p l e R s m args below meth c H locs cells slots Q (F0 m pc ls (.ref a :: rest)) := va_getN (C := RX5) (T := TX5) (N := 19) hx hb hts uw_X5 hown hK.1 hP q0 he rfl k hk (va_Nw.use rfl (hK.2 _ hf)) (fun _ h => h) hv d kk
theorem xp_X5 (hx : p.tables.exec = Jvm.exec) (hb : c.code = cc) (hts : ∀ w ∈ T0, w.before args s = true) {own : String} (hown : s.vm.findClass own = some m.cls) (hK : KX g s) {ws : va_W} {A : Nat → Prop} {H0 : Heap} (hP : va_P g.1 vwCl ws H) (hD : va_D A ws) (hS : va_S A H0 H locs) (q0 : Nat) {a index : Nat} {fs : List Value} (he : ws[q0]? = some (a, .inr (5, fs))) (k : Nat) (hk : k < 19) (hf : Cond.fieldLink own index (TX5 k).1 (TX5 k).2.1 (TX5 k).2.2.1 ∈ T0) (hfin : (TX5 k).2.2.2 = false) {v : Value} (hn : narrow (tyX5 k) v = v) (hfit : fits (tyX5 k) v = true) (hl : k < fs.length) (d : decode cc pc = .ok (.putfield index, 3)) (kk : ∀ (H1 : Heap) (locs1 : List Loc), va_P g.1 vwCl (ws.set q0 (a, .inr (5, fs.set k v))) H1 → va_D A (ws.set q0 (a, .inr (5, fs.set k v))) → va_S A H0 H1 locs1 → W p l e R s m args below meth c H1 locs1 cells slots Q (F0 m (pc + 3) ls rest)) : W p l e R s m args below meth c H locs cells slots Q (F0 m pc ls (v :: .ref a :: rest)) := va_put (C := RX5) (T := TX5) (N := 19) hx hb hts uw_X5 tyX5 tyX5_ok nmX5 hown hK.1 hP hD hS q0 he rfl k hk (hts _ hf) (fun _ h => h) hfin (tyX5_ok k hk) hn hfit hl d kk
theorem xpN_X5 (hx : p.tables.exec = Jvm.exec) (hb : c.code = cc) (hts : ∀ w ∈ T0, w.before args s = true) {own host : String} (hown : s.vm.findClass own = some m.cls) (hK : KX g s) {ws : va_W} {A : Nat → Prop} {H0 : Heap} (hP : va_P g.1 vwCl ws H) (hD : va_D A ws) (hS : va_S A H0 H locs) (q0 : Nat) {a index : Nat} {fs : List Value} (he : ws[q0]? = some (a, .inr (5, fs))) (k : Nat) (hk : k < 19) (hf : Cond.fieldLinkNest own index (TX5 k).1 (TX5 k).2.1 (TX5 k).2.2.1 host ∈ NT) (hfin : (TX5 k).2.2.2 = false) {v : Value} (hn : narrow (tyX5 k) v = v) (hfit : fits (tyX5 k) v = true) (hl : k < fs.length) (d : decode cc pc = .ok (.putfield index, 3)) (kk : ∀ (H1 : Heap) (locs1 : List Loc), va_P g.1 vwCl (ws.set q0 (a, .inr (5, fs.set k v))) H1 → va_D A (ws.set q0 (a, .inr (5, fs.set k v))) → va_S A H0 H1 locs1 → W p l e R s m args below meth c H1 locs1 cells slots Q (F0 m (pc + 3) ls rest)) : W p l e R s m args below meth c H locs cells slots Q (F0 m pc ls (v :: .ref a :: rest)) := va_putN (C := RX5) (T := TX5) (N := 19) hx hb hts uw_X5 tyX5 tyX5_ok nmX5 hown hK.1 hP hD hS q0 he rfl k hk (va_Nw.use rfl (hK.2 _ hf)) (fun _ h => h) hfin (tyX5_ok k hk) hn hfit hl d kk
end XB
