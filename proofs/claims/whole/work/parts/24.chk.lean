abbrev am_yP : MethodName := ⟨"jdk/internal/util/Preconditions", "checkIndex", "(IILjava/util/function/BiFunction;)I"⟩
abbrev am_y1 : MethodName := ⟨"java/lang/String", "checkIndex", "(II)V"⟩
abbrev am_bP : ByteArray := prog_19_method_11_code
abbrev am_b1 : ByteArray := prog_16_method_155_code
theorem am_q1 : am_gw (Cond.code ⟨"jdk/internal/util/Preconditions", "checkIndex", "(IILjava/util/function/BiFunction;)I"⟩ prog_19_method_11_code 3 (Option.some Jvm.ClassFile.FieldType.int)) := am_g2 221 rfl rfl
theorem am_q2 : am_gw (Cond.static ⟨"jdk/internal/util/Preconditions", "checkIndex", "(IILjava/util/function/BiFunction;)I"⟩) := am_g2 220 rfl rfl
theorem am_q3 : am_gw (Cond.initialized "jdk/internal/util/Preconditions") := am_g1 14 rfl rfl
theorem am_q4 : am_gw (Cond.methodLink "java/lang/String" 1059 ⟨"jdk/internal/util/Preconditions", "checkIndex", "(IILjava/util/function/BiFunction;)I"⟩) := am_g2 219 rfl rfl
theorem am_q5 : am_gw (Cond.fieldLink "java/lang/String" 1053 "jdk/internal/util/Preconditions" "SIOOBE_FORMATTER" "Ljava/util/function/BiFunction;") := am_g2 217 rfl rfl
theorem am_q6 : am_gw (Cond.code ⟨"java/lang/String", "checkIndex", "(II)V"⟩ prog_16_method_155_code 2 (Option.none : Option Jvm.ClassFile.FieldType)) := am_g2 216 rfl rfl
theorem am_q7 : am_gw (Cond.static ⟨"java/lang/String", "checkIndex", "(II)V"⟩) := am_g2 215 rfl rfl
theorem am_q8 : am_gw (Cond.initialized "java/lang/String") := am_g1 12 rfl rfl
theorem am_dP_0 : decode am_bP 0 = .ok (.iload_n 0, 1) := by decide +kernel
theorem am_dP_1 : decode am_bP 1 = .ok (.ifCond .lt 8, 3) := by decide +kernel
theorem am_dP_4 : decode am_bP 4 = .ok (.iload_n 0, 1) := by decide +kernel
theorem am_dP_5 : decode am_bP 5 = .ok (.iload_n 1, 1) := by decide +kernel
theorem am_dP_6 : decode am_bP 6 = .ok (.if_icmp .lt 10, 3) := by decide +kernel
theorem am_dP_16 : decode am_bP 16 = .ok (.iload_n 0, 1) := by decide +kernel
theorem am_dP_17 : decode am_bP 17 = .ok (.ireturn, 1) := by decide +kernel
theorem am_d1_0 : decode am_b1 0 = .ok (.iload_n 0, 1) := by decide +kernel
theorem am_d1_1 : decode am_b1 1 = .ok (.iload_n 1, 1) := by decide +kernel
theorem am_d1_2 : decode am_b1 2 = .ok (.getstatic 1053, 3) := by decide +kernel
theorem am_d1_5 : decode am_b1 5 = .ok (.invokestatic 1059, 3) := by decide +kernel
theorem am_d1_8 : decode am_b1 8 = .ok (.pop, 1) := by decide +kernel
theorem am_d1_9 : decode am_b1 9 = .ok (.return_, 1) := by decide +kernel
def am_QP (v : Option Value) : Array Value → State → Outcome → State → Prop := fun _ st oc t => oc = .returned v ∧ t.heap = st.heap
abbrev am_wsP : List Cond := Cond.code am_yP am_bP 3 (some .int) :: lw_tbl.filter goodWord
abbrev am_ws1 : List Cond := Cond.code am_y1 am_b1 2 none :: lw_tbl.filter goodWord
theorem am_gnP : GoodIn (lw_tbl.filter goodWord) am_wsP := by
  intro w hw
  rcases List.mem_cons.mp hw with rfl | h
  · exact ⟨am_q1, am_good am_q1⟩
  · exact ⟨h, am_good h⟩
theorem am_gn1 : GoodIn (lw_tbl.filter goodWord) am_ws1 := by
  intro w hw
  rcases List.mem_cons.mp hw with rfl | h
  · exact ⟨am_q6, am_good am_q6⟩
  · exact ⟨h, am_good h⟩
section CHK
variable {l : Launch}
theorem am_callP {p : Program} {e : Env} {R : Room} {s : State} {m : MethodId} {args : Array Value} {below : List Frame} {meth : Method} {c : Code} {H : Heap} {locs : List Loc} {cells slots : Nat} {Z : State → Prop} {pc : Nat} {ls : Array Slot} {rest st0 : List Value} {a : Array Value} {v : Option Value}
    (hr : va_Run p l e R s m args below meth c H locs cells slots 0 0 (F0 m pc ls st0) rest (am_QP v a) (fun _ => False))
    (kk : W p l e R s m args below meth c H locs cells slots Z (F0 m (pc + 3) ls (v.toList ++ rest))) : W p l e R s m args below meth c H locs cells slots Z (F0 m pc ls st0) := by
  intro T hT X
  obtain ⟨v', st₀, t, T', L, h0, X', hL, e1, e2, ⟨hv, hz⟩, st⟩ := hr T hT X
  have hL0 : L = [] := List.eq_nil_iff_forall_not_mem.mpr hL
  subst hL0
  cases hv
  rw [List.append_nil] at X'
  obtain ⟨t2, a1, b1⟩ := kk T' (e1.trans (hz.trans h0)) X'
  exact ⟨t2, st t2 a1, b1⟩
theorem am_metP {x y : Int32} {v : Value} (h0 : ¬ x < 0) (h1 : x < y) (hv : v = .null ∨ ∃ t, v = .ref t) : Met l am_yP am_wsP { frames := 0, cells := 0, slots := 0, locals := 0 } (va_Pc [.int x, .int y, v] (fun _ => True)) (am_QP (some (.int x))) 0 0 (fun _ => False) := by
  refine Met.ofW (cc := am_bP) (maxL := 3) (ret := some .int) (by decide) rfl ?_
  intro p e s m args below meth c s₁ B hml hv'
  obtain ⟨rfl, -⟩ := hv'
  have hx := B.exec
  have hb := B.bytes
  have hr := B.returns
  have hc1 : v.category = 1 := by rcases hv with rfl | ⟨t, rfl⟩ <;> rfl
  have hl := lv_entry ([.int x, .int y, v]) (n := 3) (by rcases hv with rfl | ⟨t, rfl⟩ <;> simp [lg_sl, Value.category])
  rw [lg_entry_eq]
  generalize (lg_sl ([.int x, .int y, v]) ++ List.replicate (3 - (lg_sl ([.int x, .int y, v])).length) Slot.unset).toArray = ls at hl ⊢
  have hl0 : ls[0]? = some (.val (.int x)) := hl.2.2 (0, .int x) List.mem_cons_self
  have hl1 : ls[1]? = some (.val (.int y)) := hl.2.2 (1, .int y) (List.mem_cons_of_mem _ List.mem_cons_self)
  refine lv_iload_n hx hb am_dP_0 rfl hl0 ?_
  refine lv_if_lt (tgt := 9) hx hb am_dP_1 rfl (fun q => absurd q h0) (fun _ => ?_)
  refine lv_iload_n hx hb am_dP_4 rfl hl0 ?_
  refine lv_iload_n hx hb am_dP_5 rfl hl1 ?_
  refine lv_icmp_lt (tgt := 16) hx hb am_dP_6 rfl (fun _ => ?_) (fun q => absurd h1 q)
  refine lv_iload_n hx hb am_dP_16 rfl hl0 ?_
  exact W.iret hx hb hr (fun t ht _ => ⟨rfl, ht⟩) (fun _ h => absurd h List.not_mem_nil) am_dP_17
theorem am_met1 {G : am_G} {Zc : am_Z} {x y : Int32} (h0 : ¬ x < 0) (h1 : x < y) : Met l am_y1 am_ws1 { frames := 1, cells := 0, slots := 0, locals := 30 } (va_Pc [.int x, .int y] (fun U => am_Cst G Zc U)) (am_QP none) 0 0 (fun _ => False) := by
  refine Met.ofW (cc := am_b1) (maxL := 2) (ret := none) (by decide) rfl ?_
  intro p e s m args below meth c s₁ B hml hv'
  obtain ⟨rfl, hCs⟩ := hv'
  have hx := B.exec
  have hb := B.bytes
  have hr := B.returns
  have hts1 := atoms_spec (ws := am_ws1) B.pre
  have hts : ∀ w ∈ lw_tbl.filter goodWord, w.before _ s = true := fun w hw => hts1 w (List.mem_cons_of_mem _ hw)
  have hown : s.vm.findClass "java/lang/String" = some m.cls := findClass_of_methodNamed B.named
  have hl := lv_entry ([.int x, .int y]) (n := 2) (Nat.le_of_ble_eq_true rfl)
  rw [lg_entry_eq]
  generalize (lg_sl ([.int x, .int y]) ++ List.replicate (2 - (lg_sl ([.int x, .int y])).length) Slot.unset).toArray = ls at hl ⊢
  have hl0 : ls[0]? = some (.val (.int x)) := hl.2.2 (0, .int x) List.mem_cons_self
  have hl1 : ls[1]? = some (.val (.int y)) := hl.2.2 (1, .int y) (List.mem_cons_of_mem _ List.mem_cons_self)
  refine lv_iload_n hx hb am_d1_0 rfl hl0 ?_
  refine lv_iload_n hx hb am_d1_1 rfl hl1 ?_
  obtain ⟨v, hv, hZ⟩ : ∃ v : Value, (v = .null ∨ ∃ t, v = .ref t) ∧ va_Z "jdk/internal/util/Preconditions" "SIOOBE_FORMATTER" "Ljava/util/function/BiFunction;" v (am_A G) s s.heap := by
    rcases hCs.2.2.2.1 with h | ⟨t, h⟩
    · exact ⟨_, Or.inl rfl, h⟩
    · exact ⟨_, Or.inr ⟨t, rfl⟩, h⟩
  refine va_gets hx hb hZ va_S.rf hown (hts _ am_q5) (fun _ h9 => h9) am_d1_2 ?_
  refine am_callP (va_runS (As := [.int x, .int y, v]) (rest := []) ⟨hx, hb, hml, hown, hts⟩ (am_metP h0 h1 hv) ⟨callB_of 3 hts am_gnP rfl rfl rfl (hts _ am_q3) (hts _ am_q4) ⟨by decide +kernel, by decide +kernel, by decide +kernel⟩ ⟨by decide, by decide⟩, hts _ am_q2⟩ ⟨fun _ _ _ _ q => q, fun U _ _ => ⟨rfl, trivial⟩⟩ rfl rfl hl.1 rfl (lv_room (by decide)) am_d1_5 ⟨by decide, by decide⟩) ?_
  refine lv_pop hx hb am_d1_8 rfl ?_
  exact W.vret hx hb hr (fun t ht _ => ⟨rfl, ht⟩) (fun _ h => absurd h List.not_mem_nil) am_d1_9
theorem am_chk {G : am_G} {Zc : am_Z} : am_Chk G Zc l := by
  intro d m pc ix p e R s mid args below meth c H locs lsA Z x y rest cells slots hX hS hsz hd hw hxy hrx hry hc hs hL hdg kk
  have hX' := hX
  obtain ⟨hx, hb, hml, hown, hnm, hts, hK, hCs, hB, hfr, hlo, hbc, hbs⟩ := hX
  have h0 : ¬ Int32.ofInt x < 0 := by
    rw [am_zI, am_ltI hrx ⟨by decide, by decide⟩]
    omega
  have h1 : Int32.ofInt x < Int32.ofInt y := (am_ltI hrx hry).mpr hxy.2
  have hM := am_met1 (l := l) (G := G) (Zc := Zc) h0 h1
  have hp : PreS s H (va_Pc [.int (Int32.ofInt x), .int (Int32.ofInt y)] (fun U => am_Cst G Zc U)) [.int (Int32.ofInt x), .int (Int32.ofInt y)] := by
    refine ⟨?_, fun U hU hW => ⟨rfl, am_Cst.warm hW (fun a q1 q2 => by rw [hU]; exact hS.2.1 a q1 q2) hCs⟩⟩
    intro a U g mk q
    exact ⟨q.1, am_Cst.warm (s := U) (U := U.calling g mk a) (State.WarmedH.refl U) (fun _ _ _ => rfl) q.2⟩
  have hroom : (1 : Nat) + 1 ≤ R.frames ∧ 8 + (2 + 11) + 30 ≤ R.locals := ⟨by omega, by omega⟩
  rcases hL with hL | hL
  · exact am_callP (va_runS (rest := rest) ⟨hx, hb, hml, hown, hts⟩ hM ⟨callB_of 2 hts am_gn1 rfl rfl rfl (hts _ am_q8) (hts _ hL) ⟨by decide +kernel, by decide +kernel, by decide +kernel⟩ hroom, hts _ am_q7⟩ hp rfl rfl hsz rfl (lv_room hw) hdg ⟨by omega, by omega⟩) kk
  · exact am_callP (va_runSN (rest := rest) ⟨hx, hb, hml, hown, hts⟩ hM ⟨va_cnB 2 hts am_gn1 rfl rfl rfl (hCs.2.2.2.2 _ hL) (hts _ am_q8) ⟨by decide +kernel, by decide +kernel, by decide +kernel⟩ hroom, hts _ am_q7, trivial⟩ hp rfl rfl hsz rfl (lv_room hw) hdg ⟨by omega, by omega⟩) kk
end CHK
