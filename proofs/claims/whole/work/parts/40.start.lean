/-! THE CLAIM OUT OF ONE WALK OF THE LAW'S BODY. Your part is whole_start (and what it stands on); all else here is the same for every law, but numbers. -/
def R_law : String := "PatternTreesLaw"
def lw_P (b : Addr) (xs : List Int32) (args : Array Value) (s : State) : Prop := args = #[.ref b] ∧ s.IntsAt b xs ∧ xs.length ≤ 3072 ∧ (Jvm.Cond.and given_1 narrow_1).before args s = true
def lw_Q (_ : Array Value) (s : State) (o : Outcome) (t : State) : Prop := o = .returned (some (.int 1)) ∧ Framed s o t [] 600000 7302250
def lw_Z (below : List Frame) (a : Array Value) (s : State) : State → Prop := fun t => ∃ o, t.status = .running ∧ Ended t below o ∧ lw_Q a s o t
/-- the law's own end, with 1 on the stack, nothing written that was there before, its room as the claim has it -/
theorem lw_ret {p : Program} {l : Launch} {e : Env} {s : State} {m : MethodId} {below : List Frame} {meth : Method} {c : Code} {b : Nat} (hx : p.tables.exec = Jvm.exec) (hb : c.code = code) (hr : meth.sig.returnType = ret) (hlocks : meth.locks = false) {pc : Nat} {H : Heap} {ls : Array Slot} (hdg : decode code pc = .ok (.ireturn, 1)) : W p l e room_1 s m #[Value.ref b] below meth c H [] 600000 7302250 (lw_Z below #[Value.ref b] s) (F0 m pc ls [.int 1]) := by
  intro T hT X
  obtain ⟨fs, hret, hrun, hended, hW, hframe⟩ := X.leave (v := some (.int 1)) (hlocks := hlocks) (fun h => by rw [hr] at h; cases h)
  have hmeth' : T.vm.method? m = some meth := X.method'
  refine ⟨T.setFrames fs, ?_, .returned (some (.int 1)), hrun, hended, rfl, ⟨_, rfl⟩, hW, hframe⟩
  jvm_step X.here [X.here.top, hx, hb, hdg, hmeth', hr, ret, narrow_b1]
  (try refine ⟨rfl, ?_⟩); (try refine ⟨rfl, ?_⟩)
  first | (intro acts; rw [hret _ acts rfl rfl rfl]) | rw [hret _ _ rfl rfl rfl]
  exact Steps.refl _
/-- what holds at the law's entry: the machine, the code, the tables' words (any of lw_tbl by 'hts w (by decide +kernel)'), the script of L ints xs at the cell b, what the Statement gives of the start (any of its parts by flat_of_before) -/
def lw_At (p : Program) (s : State) (m : MethodId) (meth : Method) (c : Code) (b L : Nat) (xs : Nat → Int32) : Prop :=
  p.tables.exec = Jvm.exec ∧ c.code = code ∧ meth.sig.returnType = ret ∧ c.maxLocals = 4 ∧ s.vm.findClass R_law = some m.cls ∧ (∀ w ∈ lw_tbl, w.before #[Value.ref b] s = true) ∧ va_X b L xs s s.heap ∧ b < s.heap.size ∧ meth.locks = false ∧ (Jvm.Cond.and given_1 narrow_1).before #[Value.ref b] s = true
def sv_tm (i : Nat) : Term := .string "PatternTrees$Tokens" (am_nth 0 [62, 75, 81, 83, 85] i)
def sv_len : List Nat := [10, 4, 3, 5, 4]
def sv_byt : List (List Int32) := [[61, 124, 59, 40, 41, 95, 126, 33, 64, 63], [100, 97, 116, 97], [110, 101, 119], [109, 97, 116, 99, 104], [119, 104, 101, 110]]
theorem sv_m1 : ∀ i, i < 5 → Cond.exactly (sv_tm i) "java/lang/String" ∈ flatC (Jvm.Cond.and given_1 narrow_1) := by decide +kernel
theorem sv_m2 : ∀ i, i < 5 → Cond.eq (.field (sv_tm i) "java/lang/String" "coder" "B") (.int 0) ∈ flatC (Jvm.Cond.and given_1 narrow_1) := by decide +kernel
theorem sv_m3 : ∀ i, i < 5 → Cond.arrayOf (.field (sv_tm i) "java/lang/String" "value" "[B") .byte ∈ flatC (Jvm.Cond.and given_1 narrow_1) := by decide +kernel
theorem sv_m4 : ∀ i, i < 5 → Cond.eq (.length (.field (sv_tm i) "java/lang/String" "value" "[B")) (.int (Int32.ofNat (sv_len.getD i 0))) ∈ flatC (Jvm.Cond.and given_1 narrow_1) := by decide +kernel
theorem sv_m5 : ∀ i, i < 5 → ∀ j, j < sv_len.getD i 0 → Cond.eq (.elem (.field (sv_tm i) "java/lang/String" "value" "[B") (.int (Int32.ofNat j))) (.int ((sv_byt.getD i []).getD j 0)) ∈ flatC (Jvm.Cond.and given_1 narrow_1) := by decide +kernel
theorem sv_m6 : ∀ i, i < 5 → ∀ j, j < 5 → i ≠ j → Cond.not (Cond.eq (sv_tm i) (sv_tm j)) ∈ flatC (Jvm.Cond.and given_1 narrow_1) ∨ Cond.not (Cond.eq (sv_tm j) (sv_tm i)) ∈ flatC (Jvm.Cond.and given_1 narrow_1) := by decide +kernel
theorem sv_m7 : Cond.eq (.static "java/lang/String" "COMPACT_STRINGS" "Z") (.int 1) ∈ flatC (Jvm.Cond.and given_1 narrow_1) := by decide +kernel
theorem sv_m8 : Cond.isRef (.static "jdk/internal/util/Preconditions" "SIOOBE_FORMATTER" "Ljava/util/function/BiFunction;") ∈ flatC (Jvm.Cond.and given_1 narrow_1) := by decide +kernel
theorem sv_t1 {w : Cond} (j : Nat) (h : tables_1_1[j]? = some w) : w ∈ lw_tbl := List.mem_append_right _ (show w ∈ tables_1 from (fun h => List.mem_append_left _ h) (List.mem_of_getElem? h))
theorem sv_t2 {w : Cond} (j : Nat) (h : tables_1_2[j]? = some w) : w ∈ lw_tbl := List.mem_append_right _ (show w ∈ tables_1 from (fun h => List.mem_append_right _ (List.mem_append_left _ h)) (List.mem_of_getElem? h))
theorem sv_t3 {w : Cond} (j : Nat) (h : tables_1_3[j]? = some w) : w ∈ lw_tbl := List.mem_append_right _ (show w ∈ tables_1 from (fun h => List.mem_append_right _ (List.mem_append_right _ (List.mem_append_left _ h))) (List.mem_of_getElem? h))
theorem sv_t4 {w : Cond} (j : Nat) (h : tables_1_4[j]? = some w) : w ∈ lw_tbl := List.mem_append_right _ (show w ∈ tables_1 from (fun h => List.mem_append_right _ (List.mem_append_right _ (List.mem_append_right _ (List.mem_append_left _ h)))) (List.mem_of_getElem? h))
theorem sv_t5 {w : Cond} (j : Nat) (h : tables_1_5[j]? = some w) : w ∈ lw_tbl := List.mem_append_right _ (show w ∈ tables_1 from (fun h => List.mem_append_right _ (List.mem_append_right _ (List.mem_append_right _ (List.mem_append_right _ (List.mem_append_left _ h))))) (List.mem_of_getElem? h))
theorem sv_t6 {w : Cond} (j : Nat) (h : tables_1_6[j]? = some w) : w ∈ lw_tbl := List.mem_append_right _ (show w ∈ tables_1 from (fun h => List.mem_append_right _ (List.mem_append_right _ (List.mem_append_right _ (List.mem_append_right _ (List.mem_append_right _ (h)))))) (List.mem_of_getElem? h))
theorem sv_r0 : Cond.stringRef "PatternTrees$Tokens" 62 "=|;()_~!@?" ∈ lw_tbl := sv_t3 15 rfl
theorem sv_r1 : Cond.stringRef "PatternTrees$Tokens" 75 "data" ∈ lw_tbl := sv_t2 188 rfl
theorem sv_r2 : Cond.stringRef "PatternTrees$Tokens" 81 "new" ∈ lw_tbl := sv_t3 1 rfl
theorem sv_r3 : Cond.stringRef "PatternTrees$Tokens" 83 "match" ∈ lw_tbl := sv_t3 2 rfl
theorem sv_r4 : Cond.stringRef "PatternTrees$Tokens" 85 "when" ∈ lw_tbl := sv_t3 3 rfl
theorem sv_ls : Cond.laysStatic "java/lang/String" "COMPACT_STRINGS" "Z" ∈ lw_tbl := sv_t2 202 rfl
theorem sv_lf : Cond.laysStatic "jdk/internal/util/Preconditions" "SIOOBE_FORMATTER" "Ljava/util/function/BiFunction;" ∈ lw_tbl := sv_t2 218 rfl
theorem sv_a_int : Cond.arrayClass Jvm.ClassFile.FieldType.int ∈ lw_tbl := sv_t1 65 rfl
theorem sv_a_boolean : Cond.arrayClass Jvm.ClassFile.FieldType.boolean ∈ lw_tbl := sv_t2 55 rfl
theorem sv_a_long : Cond.arrayClass Jvm.ClassFile.FieldType.long ∈ lw_tbl := sv_t1 66 rfl
theorem sv_a_byte : Cond.arrayClass Jvm.ClassFile.FieldType.byte ∈ lw_tbl := sv_t4 11 rfl
theorem sv_i0 : Cond.instantiable "PatternTrees" 8 ∈ lw_tbl := sv_t1 20 rfl
theorem sv_i1 : Cond.instantiable "PatternTreesModel" 58 ∈ lw_tbl := sv_t4 164 rfl
theorem sv_i2 : Cond.instantiable "PatternTrees$Asks" 7 ∈ lw_tbl := sv_t1 179 rfl
theorem sv_i3 : Cond.instantiable "PatternTrees$Form" 1 ∈ lw_tbl := sv_t1 28 rfl
theorem sv_i4 : Cond.instantiable "PatternTrees$Line" 2 ∈ lw_tbl := sv_t1 164 rfl
theorem sv_i5 : Cond.instantiable "PatternTrees$Rules" 10 ∈ lw_tbl := sv_t1 224 rfl
theorem sv_i6 : Cond.instantiable "PatternTrees$Search" 4 ∈ lw_tbl := sv_t1 158 rfl
theorem sv_i7 : Cond.instantiable "PatternTrees$Terms" 11 ∈ lw_tbl := sv_t1 73 rfl
theorem sv_i8 : Cond.instantiable "PatternTrees$Tokens" 8 ∈ lw_tbl := sv_t1 34 rfl
theorem sv_i9 : Cond.instantiable "PatternTrees$Trial" 2 ∈ lw_tbl := sv_t1 143 rfl
theorem sv_i10 : Cond.instantiable "PatternTrees$Types" 15 ∈ lw_tbl := sv_t1 230 rfl
theorem sv_inst : ∀ (ci : Nat) (q : vw_C), am_cls[ci]? = some q → Cond.instantiable q.1 q.2.2 ∈ lw_tbl := by
  intro ci q h
  have hlt : ci < 11 := (List.getElem?_eq_some_iff.mp h).1
  match ci, hlt, h with
  | 0, _, h => cases h; exact sv_i0
  | 1, _, h => cases h; exact sv_i1
  | 2, _, h => cases h; exact sv_i2
  | 3, _, h => cases h; exact sv_i3
  | 4, _, h => cases h; exact sv_i4
  | 5, _, h => cases h; exact sv_i5
  | 6, _, h => cases h; exact sv_i6
  | 7, _, h => cases h; exact sv_i7
  | 8, _, h => cases h; exact sv_i8
  | 9, _, h => cases h; exact sv_i9
  | 10, _, h => cases h; exact sv_i10
  | ci + 11, hlt, _ => omega
theorem sv_nst : ∀ q ∈ am_nsts, Cond.methodLinkNest q.1 q.2.1 q.2.2.1 q.2.2.2 ∈ lw_tbl := List.forall_mem_cons.mpr ⟨sv_t1 29 rfl, List.forall_mem_cons.mpr ⟨sv_t1 74 rfl, List.forall_mem_cons.mpr ⟨sv_t1 144 rfl, List.forall_mem_cons.mpr ⟨sv_t1 159 rfl, List.forall_mem_cons.mpr ⟨sv_t1 225 rfl, List.forall_mem_cons.mpr ⟨sv_t1 35 rfl, List.forall_mem_cons.mpr ⟨sv_t1 231 rfl, List.forall_mem_cons.mpr ⟨sv_t2 57 rfl, List.forall_mem_cons.mpr ⟨sv_t1 165 rfl, List.forall_mem_cons.mpr ⟨sv_t1 180 rfl, fun _ h => absurd h List.not_mem_nil⟩⟩⟩⟩⟩⟩⟩⟩⟩⟩
theorem am_Tcong {ty : FieldType} {t N : Nat} {f g : Nat → Value} {A : Nat → Prop} {U : State} {H : Heap} (h : va_T ty t N f A U H) (e : ∀ j, g j = f j) : va_T ty t N g A U H := by
  have e1 : g = f := funext e
  rw [e1]
  exact h
-- the constants' part of the small machine's state: the script (0), the texts and their bytes
def am_Zk (L : Nat) (a : Nat) : am_K := am_nth (.inr (99, 0)) [.inr (0, L), .inl 11, .inr (4, 10), .inl 11, .inr (4, 4), .inl 11, .inr (4, 3), .inl 11, .inr (4, 5), .inl 11, .inr (4, 4)] a
def am_Zl : List (Nat → Int) := [(fun _ => 0), (fun _ => 0), (fun j => ((sv_byt.getD 0 []).getD j 0).toInt), (fun _ => 0), (fun j => ((sv_byt.getD 1 []).getD j 0).toInt), (fun _ => 0), (fun j => ((sv_byt.getD 2 []).getD j 0).toInt), (fun _ => 0), (fun j => ((sv_byt.getD 3 []).getD j 0).toInt), (fun _ => 0), (fun j => ((sv_byt.getD 4 []).getD j 0).toInt)]
def am_Zi (xs : Nat → Int) (a j : Nat) : Int := cond (Nat.beq a 0) (xs j) (am_nth (fun _ => (0 : Int)) am_Zl a j)
def am_Zr (a k : Nat) : Option Nat := cond (Nat.beq k 0) (am_nth none [none, some 2, none, some 4, none, some 6, none, some 8, none, some 10, none] a) none
/-- WHAT IS LEFT: the law's body, run by the small machine, answers 1 -/
def am_goal : Prop := ∀ (L : Nat) (xs : Nat → Int), L ≤ 3072 → (∀ j, -2147483648 ≤ xs j ∧ xs j ≤ 2147483647) → am_WP 1300 (am_entry 172 [.inr (.inl 0)] (11, am_Zk L, am_Zi xs, fun _ _ => 0, am_Zr)) (fun v _ => v = some (.inl 1))
theorem am_nth_out {α : Type} {d : α} : ∀ (l : List α) (k : Nat), l.length ≤ k → am_nth d l k = d
  | [], _, _ => rfl
  | _ :: l, 0, h => absurd h (by simp)
  | _ :: l, k + 1, h => am_nth_out l k (by simpa using h)
set_option maxHeartbeats 4000000 in
set_option maxRecDepth 20000 in
/-- the claim's start out of the small machine's run -/
theorem am_whole (goal : am_goal) {p : Program} {e : Env} {s : State} {m : MethodId} {below : List Frame} {meth : Method} {c : Code} (l : Launch) {b L : Nat} {xs : Nat → Int32} (hL : L ≤ 3072) (C0 : lw_At p s m meth c b L xs) : W p l e room_1 s m #[Value.ref b] below meth c s.heap [] 0 0 (lw_Z below #[Value.ref b] s) (entryFrame m ([Value.ref b] : List Value).toArray 4) := by
  obtain ⟨hx, hb, hr, hml, hown, hts0, hX, hbl, hlocks, hgv⟩ := id C0
  have hts : ∀ w ∈ lw_tbl.filter goodWord, w.before #[Value.ref b] s = true := fun w hw => hts0 w (List.mem_filter.mp hw).1
  have hs := flat_of_before _ hgv
  have hA : ∀ a : Nat, a < s.heap.size → ¬ (fun q : Nat => s.heap.size ≤ q) a := fun a h => Nat.not_le.mpr h
  obtain ⟨adK, adV, hS5, hev⟩ := vk_Sof (A := fun q : Nat => s.heap.size ≤ q) (N := 5) (tm := sv_tm) (len := sv_len) (byt := sv_byt) (by decide) (fun i hi => hs _ (sv_m1 i hi)) (fun i hi => hs _ (sv_m2 i hi)) (fun i hi => hs _ (sv_m3 i hi)) (fun i hi => hs _ (sv_m4 i hi)) (fun i hi j hj => hs _ (sv_m5 i hi j hj)) (fun i j hi hj hij => (sv_m6 i hi j hj hij).imp (hs _) (hs _)) hA
  have hcl : ∀ ci : Nat, ∃ q : ClassId × (Nat → Nat), ∀ r : vw_C, am_cls[ci]? = some r → u_Kn s r.1 r.2.1 r.2.2 q.1 q.2 := by
    intro ci
    cases hr : am_cls[ci]? with
    | none => exact ⟨(m.cls, fun _ => 0), fun r h => by cases h⟩
    | some r =>
      obtain ⟨cC, iS, hk⟩ := u_known (C := r.1) (T := r.2.1) (N := r.2.2) (n := r.2.2) hts (am_hOK ci r hr).1 (hts0 _ (sv_inst ci r hr))
      exact ⟨(cC, iS), fun r' h => by cases h; exact hk⟩
  obtain ⟨cl, hcl⟩ := Classical.axiomOfChoice hcl
  have harr : ∀ ty : FieldType, Cond.arrayClass ty ∈ lw_tbl → ∃ cA, ArrOfT s cA ty ∧ s.vm.findClass ("[" ++ ty.toString) = some cA := by
    intro ty h
    obtain ⟨cA, kA, comp, h1, h2, h3⟩ := Cond.arrayClass_spec (hts0 _ h)
    exact ⟨cA, fun n z => ⟨fun k h => (by cases h), kA, h2, comp, h3⟩, h1⟩
  obtain ⟨cI, aI, fI⟩ := harr .int sv_a_int
  obtain ⟨cZ, aZ, fZ⟩ := harr .boolean sv_a_boolean
  obtain ⟨cJ, aJ, fJ⟩ := harr .long sv_a_long
  obtain ⟨cB, aB, fB⟩ := harr .byte sv_a_byte
  let G : am_G := (fun ci => (cl ci).1, fun ci => (cl ci).2, fun t => am_nth cB [cI, cZ, cJ] t, am_nth 0 [b, adK 0, adV 0, adK 1, adV 1, adK 2, adV 2, adK 3, adV 3, adK 4, adV 4], s.heap.size)
  let Zc : am_Z := (am_Zk L, am_Zi (fun j => (xs j).toInt), am_Zr)
  have hK : va_K (G.1, G.2.1) am_cls (am_tys G) s := by
    refine ⟨fun ci q hq => hcl ci q hq, fun k q hk => ?_⟩
    match k, hk with
    | 0, hk => cases hk; exact ⟨aI, fI⟩
    | 1, hk => cases hk; exact ⟨aZ, fZ⟩
    | 2, hk => cases hk; exact ⟨aJ, fJ⟩
    | 3, hk => cases hk; exact ⟨aB, fB⟩
  have hCs : am_Cst G Zc s := by
    refine ⟨fun a ha => ?_, List.forall_mem_cons.mpr ⟨vk_R.of (hts0 _ sv_r0) (hev 0 (by decide)), List.forall_mem_cons.mpr ⟨vk_R.of (hts0 _ sv_r1) (hev 1 (by decide)), List.forall_mem_cons.mpr ⟨vk_R.of (hts0 _ sv_r2) (hev 2 (by decide)), List.forall_mem_cons.mpr ⟨vk_R.of (hts0 _ sv_r3) (hev 3 (by decide)), List.forall_mem_cons.mpr ⟨vk_R.of (hts0 _ sv_r4) (hev 4 (by decide)), fun _ h => absurd h List.not_mem_nil⟩⟩⟩⟩⟩, List.forall_mem_cons.mpr ⟨va_Zof (hts0 _ sv_ls) (hts _ am_q8) (va_eqt (hs _ sv_m7)) hA, fun _ h => absurd h List.not_mem_nil⟩, va_Zqof (hts0 _ sv_lf) (hts _ am_q3) (hs _ sv_m8) hA, fun q hq => va_Nw.of rfl (hts0 _ (sv_nst q hq))⟩
    match a, ha with
    | 0, _ =>
      intro _
      obtain ⟨scr, g1, g2, g3, g4, g5⟩ := hX
      refine ⟨scr, g1, g2, g3, Nat.le_of_eq g4.symm, by rw [g4], fun j hj => ?_, Nat.not_le.mpr hbl⟩
      rw [g5 j hj]
      show some (Value.int (xs j)) = some (Value.int (Int32.ofInt (xs j).toInt))
      rw [Int32.ofInt_toInt]
    | 1, _ =>
      exact ⟨rfl, (hS5.1 0 (by decide)).1, fun k hk => match k, hk with
        | 0, _ => (hS5.1 0 (by decide)).2.2.1
        | 1, _ => (hS5.1 0 (by decide)).2.1
        | k + 2, hk => absurd (show k + 2 < 2 from hk) (by omega)⟩
    | 2, _ =>
      exact fun _ => am_Tcong (hS5.1 0 (by decide)).2.2.2 (fun j => by
        show Value.int (Int32.ofInt (Int32.toInt _)) = _
        rw [Int32.ofInt_toInt])
    | 3, _ =>
      exact ⟨rfl, (hS5.1 1 (by decide)).1, fun k hk => match k, hk with
        | 0, _ => (hS5.1 1 (by decide)).2.2.1
        | 1, _ => (hS5.1 1 (by decide)).2.1
        | k + 2, hk => absurd (show k + 2 < 2 from hk) (by omega)⟩
    | 4, _ =>
      exact fun _ => am_Tcong (hS5.1 1 (by decide)).2.2.2 (fun j => by
        show Value.int (Int32.ofInt (Int32.toInt _)) = _
        rw [Int32.ofInt_toInt])
    | 5, _ =>
      exact ⟨rfl, (hS5.1 2 (by decide)).1, fun k hk => match k, hk with
        | 0, _ => (hS5.1 2 (by decide)).2.2.1
        | 1, _ => (hS5.1 2 (by decide)).2.1
        | k + 2, hk => absurd (show k + 2 < 2 from hk) (by omega)⟩
    | 6, _ =>
      exact fun _ => am_Tcong (hS5.1 2 (by decide)).2.2.2 (fun j => by
        show Value.int (Int32.ofInt (Int32.toInt _)) = _
        rw [Int32.ofInt_toInt])
    | 7, _ =>
      exact ⟨rfl, (hS5.1 3 (by decide)).1, fun k hk => match k, hk with
        | 0, _ => (hS5.1 3 (by decide)).2.2.1
        | 1, _ => (hS5.1 3 (by decide)).2.1
        | k + 2, hk => absurd (show k + 2 < 2 from hk) (by omega)⟩
    | 8, _ =>
      exact fun _ => am_Tcong (hS5.1 3 (by decide)).2.2.2 (fun j => by
        show Value.int (Int32.ofInt (Int32.toInt _)) = _
        rw [Int32.ofInt_toInt])
    | 9, _ =>
      exact ⟨rfl, (hS5.1 4 (by decide)).1, fun k hk => match k, hk with
        | 0, _ => (hS5.1 4 (by decide)).2.2.1
        | 1, _ => (hS5.1 4 (by decide)).2.1
        | k + 2, hk => absurd (show k + 2 < 2 from hk) (by omega)⟩
    | 10, _ =>
      exact fun _ => am_Tcong (hS5.1 4 (by decide)).2.2.2 (fun j => by
        show Value.int (Int32.ofInt (Int32.toInt _)) = _
        rw [Int32.ofInt_toInt])
    | a + 11, ha => exact absurd (show a + 11 < 11 from ha) (by omega)
  have hHp : am_Hp G Zc (11, am_Zk L, am_Zi (fun j => (xs j).toInt), fun _ _ => 0, am_Zr) s.heap := by
    refine ⟨Nat.le_refl _, rfl, fun a ha => am_nth_out _ a ha, fun a h1 h2 => absurd (Nat.lt_of_lt_of_le h2 h1) (Nat.lt_irrefl _), fun a _ => ⟨rfl, rfl, rfl⟩, fun a j => ?_, fun _ _ => ⟨show (-9223372036854775808 : Int) ≤ 0 from by decide, show (0 : Int) ≤ 9223372036854775807 from by decide⟩⟩
    unfold am_Zi
    cases Nat.beq a 0 with
    | true => exact am_rgI _
    | false =>
      show -2147483648 ≤ am_nth (fun _ => (0 : Int)) am_Zl a j ∧ am_nth (fun _ => (0 : Int)) am_Zl a j ≤ 2147483647
      by_cases h : a < 11
      · match a, h with
        | 0, _ => exact ⟨show (-2147483648 : Int) ≤ 0 from by decide, show (0 : Int) ≤ 2147483647 from by decide⟩
        | 1, _ => exact ⟨show (-2147483648 : Int) ≤ 0 from by decide, show (0 : Int) ≤ 2147483647 from by decide⟩
        | 2, _ => exact am_rgI _
        | 3, _ => exact ⟨show (-2147483648 : Int) ≤ 0 from by decide, show (0 : Int) ≤ 2147483647 from by decide⟩
        | 4, _ => exact am_rgI _
        | 5, _ => exact ⟨show (-2147483648 : Int) ≤ 0 from by decide, show (0 : Int) ≤ 2147483647 from by decide⟩
        | 6, _ => exact am_rgI _
        | 7, _ => exact ⟨show (-2147483648 : Int) ≤ 0 from by decide, show (0 : Int) ≤ 2147483647 from by decide⟩
        | 8, _ => exact am_rgI _
        | 9, _ => exact ⟨show (-2147483648 : Int) ≤ 0 from by decide, show (0 : Int) ≤ 2147483647 from by decide⟩
        | 10, _ => exact am_rgI _
        | a + 11, h => omega
      · rw [am_nth_out am_Zl a (Nat.le_of_not_lt h)]
        exact ⟨show (-2147483648 : Int) ≤ 0 from by decide, show (0 : Int) ≤ 2147483647 from by decide⟩
  have hw := goal L (fun j => (xs j).toInt) hL (fun j => am_rgI _) (am_Sem G Zc l) am_snd
  have hl := lv_entry ([.ref b]) (n := 4) (Nat.le_of_ble_eq_true rfl)
  rw [lg_entry_eq]
  refine hw p e room_1 s m #[Value.ref b] below meth c s.heap [] _ _ ⟨hx, hb, hml, hown, fun q => absurd q (by decide), hts, hK, hCs, Nat.le_refl _, by decide, by decide, by decide, by decide⟩ hHp va_S.rf (am_lh_entry (as := [.inr (.inl 0)]) hl) (am_rgs_entry (am_rgs_cons (v := .inr (.inl 0)) trivial am_rgs_nil)) am_rgs_nil ⟨Nat.zero_le _, Nat.zero_le _⟩ ?_
  intro v σ' H' locs' ct' pc' lsA' hQ hrv hH' hS' hct hR
  subst hQ
  refine va_forget hS'.2.2 (W.widen (k := 600000) (n := 7302250) (Nat.le_trans hct.1 (by decide)) (Nat.le_trans hct.2 (by decide)) ?_)
  have e1 : Int32.ofInt 1 = 1 := by decide
  show W p l e room_1 s m #[Value.ref b] below meth c H' [] 600000 7302250 (lw_Z below #[Value.ref b] s) (F0 m pc' lsA' [.int (Int32.ofInt 1)])
  rw [e1]
  exact lw_ret hx hb hr hlocks hR.1
