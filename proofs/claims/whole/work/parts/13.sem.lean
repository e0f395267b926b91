/-! WHAT THE TABLES MUST SAY OF EVERY ROW (am_okI), AND WHAT A RUN OF THE SMALL MACHINE SAYS OF THE LARGE ONE (am_Sem). -/
def am_gw (w : Cond) : Prop := w ∈ lw_tbl.filter goodWord
theorem am_gw_of {w : Cond} (j : Nat) (h : lw_tbl[j]? = some w) (hg : goodWord w = true) : am_gw w := List.mem_filter.mpr ⟨List.mem_of_getElem? h, hg⟩
def am_ws (r : Nat) : List Cond := Cond.code (am_y r) (am_by r) (am_ml r) (am_rT r) :: lw_tbl.filter goodWord
def am_rcT (rc : Nat) (t : Option FieldType) : Prop := match rc with
  | 0 => t = none
  | 1 => t = some .int
  | 2 => t = some .long
  | 3 => ∃ u : FieldType, t = some u ∧ ((∃ n, u = .object n) ∨ ∃ v, u = .array v)
  | 4 => t = some .boolean
  | 5 => t = some .char
  | 6 => t = some .byte
  | _ => False
/-- a method that can be called -/
def am_okC (r : Nat) : Prop := am_gw (Cond.code (am_y r) (am_by r) (am_ml r) (am_rT r)) ∧ am_gw (Cond.initialized (am_y r).cls) ∧ ((am_y r).cls ≠ "java/lang/invoke/MethodHandle" ∧ (am_y r).cls ≠ "java/lang/invoke/VarHandle") ∧ plainName (am_y r).cls = true ∧ am_ml r ≤ 41 ∧ am_rcT (am_rc r) (am_rT r)
def am_okL0 (own host : String) (ix r : Nat) : Prop := am_gw (Cond.methodLink own ix (am_y r)) ∨ (own, ix, am_y r, host) ∈ am_nsts
abbrev am_okL (m ix r : Nat) : Prop := am_okL0 (am_y m).cls (am_host m) ix r
def am_okF0 (own host : String) (ix ci k : Nat) : Prop := match am_cls[ci]? with
  | some (_, T, N) => k < N ∧ (am_gw (Cond.fieldLink own ix (T k).1 (T k).2.1 (T k).2.2.1) ∨ am_gw (Cond.fieldLinkNest own ix (T k).1 (T k).2.1 (T k).2.2.1 host))
  | none => k < am_cN ci ∧ am_gw (Cond.fieldLink own ix (am_cT ci k).1 (am_cT ci k).2.1 (am_cT ci k).2.2.1)
abbrev am_okF (m ix ci k : Nat) : Prop := am_okF0 (am_y m).cls (am_host m) ix ci k
def am_okP0 (own host nm : String) (ix ci k : Nat) : Prop := match am_cls[ci]? with
  | some (_, T, N) => k < N ∧ ((T k).2.2.2 = false ∧ (am_gw (Cond.fieldLink own ix (T k).1 (T k).2.1 (T k).2.2.1) ∨ am_gw (Cond.fieldLinkNest own ix (T k).1 (T k).2.1 (T k).2.2.1 host)) ∨ (T k).2.2.2 = true ∧ nm = "<init>" ∧ (T k).1 = own ∧ am_gw (Cond.fieldLink own ix (T k).1 (T k).2.1 (T k).2.2.1))
  | none => False
abbrev am_okP (m ix ci k : Nat) : Prop := am_okP0 (am_y m).cls (am_host m) (am_y m).name ix ci k
def am_len (i : Jvm.ClassFile.Instr) : Nat := match i with
  | .bipush _ | .iload _ | .lload _ | .aload _ | .istore _ | .lstore _ | .astore _ | .newarray _ => 2
  | .sipush _ | .iinc _ _ => 3
  | _ => 1
/-- the instruction as it stands in the code, and its length -/
def am_dec (pc : Nat) (i : Jvm.ClassFile.Instr) (ix : Nat) : Jvm.ClassFile.Instr × Nat := match i with
  | .jsr _ => (.ldc ix, 2)
  | .jsr_w _ => (.ldc2_w ix, 3)
  | .goto_w _ => (.ldc_w ix, 3)
  | .ldc _ => (.ldc ix, 2)
  | .getstatic _ => (.getstatic ix, 3)
  | .ifCond c t => (.ifCond c (t - (pc : Int)), 3)
  | .if_icmp c t => (.if_icmp c (t - (pc : Int)), 3)
  | .goto t => (.goto (t - (pc : Int)), 3)
  | .tableswitch t lo hi os => (.tableswitch (t - (pc : Int)) lo hi (os.map fun o => o - (pc : Int)), ix)
  | .lookupswitch t ps => (.lookupswitch (t - (pc : Int)) (ps.map fun q => (q.1, q.2 - (pc : Int))), ix)
  | .getfield _ => (.getfield ix, 3)
  | .putfield _ => (.putfield ix, 3)
  | .new _ => (.new ix, 3)
  | .invokestatic _ => (.invokestatic ix, 3)
  | .invokespecial _ => (.invokespecial ix, 3)
  | .invokevirtual _ => (.invokevirtual ix, 3)
  | i => (i, am_len i)
def am_okD (m pc : Nat) (i : Jvm.ClassFile.Instr) (nx ix : Nat) : Prop := decode (am_by m) pc = .ok (am_dec pc i ix) ∧ nx = pc + (am_dec pc i ix).2
/-- what an instruction wants of the tables -/
def am_okW (m pc : Nat) (i : Jvm.ClassFile.Instr) (ix : Nat) : Prop := match i with
  | .iconst v => -2147483648 ≤ v ∧ v ≤ 2147483647
  | .bipush v => -128 ≤ v ∧ v ≤ 127
  | .sipush v => -32768 ≤ v ∧ v ≤ 32767
  | .istore j | .astore j | .iinc j _ => j < am_ml m
  | .istore_n j | .astore_n j => (j : Nat) < am_ml m
  | .lstore j => j + 1 < am_ml m
  | .lstore_n j => (j : Nat) + 1 < am_ml m
  | .newarray t => am_gw (Cond.arrayClass (newarray.typeOf t))
  | .jsr v | .goto_w v => (-2147483648 ≤ v ∧ v ≤ 2147483647) ∧ am_gw (Cond.constant (am_y m).cls ix (Int32.ofInt v))
  | .jsr_w v => (-9223372036854775808 ≤ v ∧ v ≤ 9223372036854775807) ∧ am_gw (Cond.constantLong (am_y m).cls ix (Int64.ofInt v))
  | .ldc a => ∃ tx : String, ((am_y m).cls, ix, tx, a) ∈ am_strs
  | .getstatic v => (v : Int) ≤ 2147483647 ∧ ∃ C f e : String, (C, f, e, v) ∈ am_stats ∧ am_gw (Cond.fieldLink (am_y m).cls ix C f e)
  | .ifCond _ t | .if_icmp _ t | .goto t => 0 ≤ t
  | .tableswitch t lo hi os => 0 ≤ t ∧ (∀ o ∈ os.toList, 0 ≤ o) ∧ hi = lo + (os.toList.length : Int) - 1 ∧ -2147483648 ≤ lo ∧ hi ≤ 2147483647
  | .lookupswitch t ps => 0 ≤ t ∧ (∀ q ∈ ps.toList, 0 ≤ q.2 ∧ -2147483648 ≤ q.1 ∧ q.1 ≤ 2147483647) ∧ (((ps.map fun q => (q.1, q.2 - (pc : Int))).toList.zip ((ps.map fun q => (q.1, q.2 - (pc : Int))).toList.drop 1)).all (fun (a, next) => a.1 < next.1) = true)
  | .getfield q => am_okF m ix (q / 64) (q % 64)
  | .putfield q => am_okP m ix (q / 64) (q % 64)
  | .new c => ∃ q : vw_C, am_cls[c]? = some q ∧ am_N c = q.2.2 ∧ am_gw (Cond.classLink (am_y m).cls ix q.1) ∧ am_gw (Cond.instantiable q.1 q.2.2) ∧ am_gw (Cond.initialized q.1)
  | .invokestatic r => match r with
    | 1 => am_okL m ix 1
    | 2 => am_gw (Cond.methodLink (am_y m).cls ix Lib.Math.max.name) ∧ am_gw (Cond.static Lib.Math.max.name) ∧ am_gw (Cond.initialized "java/lang/Math") ∧ am_gw (Cond.code Lib.Math.max.name Lib.Math.max.code 2 (some .int))
    | 3 => am_gw (Cond.methodLink (am_y m).cls ix Lib.Math.min.name) ∧ am_gw (Cond.static Lib.Math.min.name) ∧ am_gw (Cond.initialized "java/lang/Math") ∧ am_gw (Cond.code Lib.Math.min.name Lib.Math.min.code 2 (some .int))
    | _ => am_okC r ∧ am_okL m ix r ∧ am_gw (Cond.static (am_y r)) ∧ (parseMethodDescriptor (am_y r).desc).map (fun d => d.parameters.length) = some (am_np r)
  | .invokespecial r => match r with
    | 0 => am_gw (Cond.methodLink (am_y m).cls ix objectInit) ∧ am_gw (Cond.instanceMethod objectInit) ∧ am_gw (Cond.code objectInit ⟨#[0xb1]⟩ 1 none)
    | _ => am_okC r ∧ am_okL m ix r ∧ (am_y r).name = "<init>" ∧ am_rT r = none ∧ am_gw (Cond.instanceMethod (am_y r)) ∧ (parseMethodDescriptor (am_y r).desc).map (fun d => d.parameters.length + 1) = some (am_np r)
  | .invokevirtual r => am_okC r ∧ am_okL m ix r ∧ am_gw (Cond.instanceMethod (am_y r)) ∧ (parseMethodDescriptor (am_y r).desc).map (fun d => d.parameters.length + 1) = some (am_np r) ∧ am_gw (Cond.selects (am_y r).cls (am_y r) (am_y r)) ∧ (match am_cls[am_rcv r]? with
      | some q => q.1 = (am_y r).cls
      | none => am_cn (am_rcv r) = (am_y r).cls)
  | _ => True
def am_okI (m pc : Nat) (i : Jvm.ClassFile.Instr) (nx ix : Nat) : Prop := am_okD m pc i nx ix ∧ am_okW m pc i ix
/-- what the tables must say of a kind of object -/
def am_okK (ci : Nat) (q : vw_C) : Prop := (∀ w ∈ u_ws q.1 q.2.1 q.2.2, am_gw w) ∧ (∀ k, k < q.2.2 → parseFieldDescriptor (q.2.1 k).2.2.1 = some (am_ft ci k)) ∧ (∀ a, a < q.2.2 → ∀ b, b < q.2.2 → a ≠ b → (q.2.1 a).2.1 ≠ (q.2.1 b).2.1) ∧ ∀ k, k < q.2.2 → am_rcT (match am_fty ci k with | 0 => 1 | 1 => 4 | t => t) (some (am_ft ci k)) ∧ am_fty ci k ≤ 3
section AMS
variable (G : am_G) (Zc : am_Z) (l : Launch)
def am_Ctx (d m : Nat) (p : Program) (R : Room) (s : State) (mid : MethodId) (args : Array Value) (meth : Method) (c : Code) : Prop :=
  p.tables.exec = Jvm.exec ∧ c.code = am_by m ∧ c.maxLocals = am_ml m ∧ s.vm.findClass (am_y m).cls = some mid.cls ∧ ((am_y m).name = "<init>" → meth.name = "<init>") ∧ (∀ w ∈ lw_tbl.filter goodWord, w.before args s = true) ∧ va_K (G.1, G.2.1) am_cls (am_tys G) s ∧ am_Cst G Zc s ∧ G.2.2.2.2 ≤ s.heap.size ∧ d ≤ R.frames ∧ 60 * d ≤ R.locals ∧ (am_bud m).1 ≤ R.cells ∧ (am_bud m).2 ≤ R.slots
def am_isR (m pc : Nat) (v : Option am_V) : Prop := match v with
  | none => decode (am_by m) pc = .ok (.return_, 1) ∧ am_rc m = 0
  | some (.inl x) => decode (am_by m) pc = .ok (.ireturn, 1) ∧ am_ret (am_rc m) x True
  | some (.inr (.inr (some _))) => decode (am_by m) pc = .ok (.lreturn, 1) ∧ am_rc m = 2
  | some (.inr (.inl _)) => decode (am_by m) pc = .ok (.areturn, 1) ∧ am_rc m = 3
  | _ => False
def am_Sem (d : Nat) (cf : am_C) (Q : am_Q) : Prop := match cf with
  | (m, pc, ls, st, ct, σ) => ∀ (p : Program) (e : Env) (R : Room) (s : State) (mid : MethodId) (args : Array Value) (below : List Frame) (meth : Method) (c : Code) (H : Heap) (locs : List Loc) (lsA : Array Slot) (Z : State → Prop),
    am_Ctx G Zc d m p R s mid args meth c → am_Hp G Zc σ H → va_S (am_A G) s.heap H locs → am_lh (am_r G) lsA (am_ml m) ls → am_rgs ls → am_rgs st → ct.1 ≤ (am_bud m).1 ∧ ct.2 ≤ (am_bud m).2 →
    (∀ (v : Option am_V) (σ' : am_S) (H' : Heap) (locs' : List Loc) (ct' : Nat × Nat) (pc' : Nat) (lsA' : Array Slot), Q v σ' → am_rgs v.toList → am_Hp G Zc σ' H' → va_S (am_A G) s.heap H' locs' → ct'.1 ≤ (am_bud m).1 ∧ ct'.2 ≤ (am_bud m).2 → am_isR m pc' v → W p l e R s mid args below meth c H' locs' ct'.1 ct'.2 Z (F0 mid pc' lsA' (v.map (am_cv (am_r G))).toList)) →
    W p l e R s mid args below meth c H locs ct.1 ct.2 Z (F0 mid pc lsA (st.map (am_cv (am_r G))))
/-- what String.checkIndex, method 1, does where it throws nothing -/
def am_Chk : Prop := ∀ (d m pc ix : Nat) (p : Program) (e : Env) (R : Room) (s : State) (mid : MethodId) (args : Array Value) (below : List Frame) (meth : Method) (c : Code) (H : Heap) (locs : List Loc) (lsA : Array Slot) (Z : State → Prop) (x y : Int) (rest : List Value) (cells slots : Nat),
    am_Ctx G Zc d m p R s mid args meth c → va_S (am_A G) s.heap H locs → lsA.size = am_ml m → 2 ≤ d → (rest.map fun v => v.category).sum ≤ 8 → 0 ≤ x ∧ x < y → (-2147483648 ≤ x ∧ x ≤ 2147483647) → (-2147483648 ≤ y ∧ y ≤ 2147483647) → cells ≤ R.cells → slots ≤ R.slots → am_okL m ix 1 → decode (am_by m) pc = .ok (.invokestatic ix, 3) →
    W p l e R s mid args below meth c H locs cells slots Z (F0 mid (pc + 3) lsA rest) → W p l e R s mid args below meth c H locs cells slots Z (F0 mid pc lsA (.int (Int32.ofInt y) :: .int (Int32.ofInt x) :: rest))
def am_PU (σ : am_S) : State → Prop := fun U => am_Hp G Zc σ U.heap ∧ va_K (G.1, G.2.1) am_cls (am_tys G) U ∧ am_Cst G Zc U ∧ G.2.2.2.2 ≤ U.heap.size
def am_Qc (Q : am_Q) : Array Value → State → Outcome → State → Prop := fun _ st oc t => (∃ (v : Option am_V) (σ : am_S), oc = .returned (v.map (am_cv (am_r G))) ∧ Q v σ ∧ am_rgs v.toList ∧ am_Hp G Zc σ t.heap) ∧ va_F (am_A G) st t
abbrev am_rm (d r : Nat) : Room := { frames := d, cells := (am_bud r).1, slots := (am_bud r).2, locals := 60 * d }
end AMS
