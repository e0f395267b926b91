section AMC
variable {G : am_G} {Zc : am_Z} {l : Launch}
variable {p : Program} {e : Env} {R : Room} {s : State} {mid : MethodId} {args : Array Value} {below : List Frame} {meth : Method} {c : Code} {H : Heap} {locs : List Loc} {lsA : Array Slot} {Z : State → Prop}
theorem am_rt_e {rc : Nat} {k : List am_V → am_S → Prop} {rest : List am_V} {v : Option am_V} {σ : am_S} (ρ : Nat → Nat) (h : am_rt rc k rest v σ) : ∃ st', k st' σ ∧ st' = v.toList ++ rest ∧ st'.map (am_cv ρ) = (v.map (am_cv ρ)).toList ++ rest.map (am_cv ρ) := by
  unfold am_rt at h
  split at h
  · obtain ⟨rfl, h⟩ := h; exact ⟨_, h, rfl, rfl⟩
  · obtain ⟨x, rfl, h⟩ := h; exact ⟨_, h, rfl, rfl⟩
  · obtain ⟨x, rfl, h⟩ := h; exact ⟨_, h, rfl, rfl⟩
  · obtain ⟨x, rfl, h⟩ := h; exact ⟨_, h, rfl, rfl⟩
theorem am_words_cv (ρ : Nat → Nat) (st : List am_V) : ((st.map (am_cv ρ)).map fun v => v.category).sum = am_words st := by
  unfold am_words
  rw [List.map_map]
  congr 1
  apply List.map_congr_left
  intro v _
  exact am_cv_cat ρ v
theorem am_good {w : Cond} (h : am_gw w) : (w.onTables && w.keeps) = true ∨ ∃ ty, w = .arrayClass ty := good_of_word (List.mem_filter.mp h).2
theorem am_goodIn {r : Nat} (hC : am_okC r) : GoodIn (lw_tbl.filter goodWord) (am_ws r) := by
  intro w hw
  rcases List.mem_cons.mp hw with rfl | h
  · exact ⟨hC.1, am_good hC.1⟩
  · exact ⟨h, am_good h⟩
theorem am_fit_e {r m : Nat} {st : List am_V} {ct : Nat × Nat} (h : am_fit r m st ct = true) : am_np r ≤ st.length ∧ (am_fl (st.take (am_np r)).reverse).length ≤ am_ml r ∧ am_words (st.drop (am_np r)) ≤ 8 ∧ ct.1 + (am_bud r).1 ≤ (am_bud m).1 ∧ ct.2 + (am_bud r).2 ≤ (am_bud m).2 := by
  unfold am_fit at h
  simp only [Bool.and_eq_true, Nat.ble_eq] at h
  exact h
theorem am_pre_call {d m : Nat} {as : List Value} {σ : am_S} (hC : am_Ctx G Zc d m p R s mid args meth c) (hH : am_Hp G Zc σ H) (hS : va_S (am_A G) s.heap H locs) : ∀ U : State, U.heap = H → s.WarmedH U.vm → va_Pc as (am_PU G Zc σ) as.toArray U := by
  obtain ⟨-, -, -, -, -, -, hK, hCs, hB, -⟩ := hC
  intro U hU hW
  exact ⟨rfl, by rw [hU]; exact hH, va_K.moved hW.alike hK, am_Cst.warm hW (fun a h1 h2 => by rw [hU]; exact hS.2.1 a h1 h2) hCs, by rw [hU]; exact Nat.le_trans hB hS.1⟩
theorem am_stack_split (ρ : Nat → Nat) (st : List am_V) (n : Nat) : st.map (am_cv ρ) = ((st.take n).reverse.map (am_cv ρ)).reverse ++ (st.drop n).map (am_cv ρ) := by
  rw [← List.map_reverse, List.reverse_reverse, ← List.map_append, List.take_append_drop]
theorem am_recv_split {st rr : List am_V} {n a : Nat} (hn : 0 < n) (hl : n ≤ st.length) (h : st.drop (n - 1) = .inr (.inl a) :: rr) : (st.take n).reverse = .inr (.inl a) :: (st.take (n - 1)).reverse ∧ st.drop n = rr ∧ (st.take (n - 1)).length = n - 1 := by
  have h1 : st.take n = st.take (n - 1) ++ [.inr (.inl a)] := by
    have e : st.take n = st.take (n - 1) ++ (st.drop (n - 1)).take 1 := by
      conv => lhs; rw [show n = (n - 1) + 1 by omega, List.take_add]
    rw [e, h]; rfl
  refine ⟨by rw [h1]; simp, ?_, by rw [List.length_take]; omega⟩
  have e : st.drop n = (st.drop (n - 1)).drop 1 := by
    rw [List.drop_drop]; congr 1; omega
  rw [e, h]; rfl
/-- invokestatic -/
theorem am_invS {d m pc ix r : Nat} {st ls : List am_V} {ct : Nat × Nat} {σ : am_S} {Q : am_Q}
    (h : am_inv (am_cl (am_Sem G Zc l) d) (fun st' ct' σ' => am_Sem G Zc l d (m, pc + 3, ls, st', ct', σ') Q) r m st ct σ)
    (hdg : decode (am_by m) pc = .ok (.invokestatic ix, 3)) (hC : am_okC r) (hL : am_okL m ix r) (hst : am_gw (Cond.static (am_y r))) (hpar : (parseMethodDescriptor (am_y r).desc).map (fun d => d.parameters.length) = some (am_np r))
    (hX : am_Ctx G Zc d m p R s mid args meth c) (hH : am_Hp G Zc σ H) (hS : va_S (am_A G) s.heap H locs) (hl : am_lh (am_r G) lsA (am_ml m) ls) (hgl : am_rgs ls) (hgs : am_rgs st)
    (hret : ∀ (v : Option am_V) (σ' : am_S) (H' : Heap) (locs' : List Loc) (ct' : Nat × Nat) (pc' : Nat) (lsA' : Array Slot), Q v σ' → am_rgs v.toList → am_Hp G Zc σ' H' → va_S (am_A G) s.heap H' locs' → ct'.1 ≤ (am_bud m).1 ∧ ct'.2 ≤ (am_bud m).2 → am_isR m pc' v → W p l e R s mid args below meth c H' locs' ct'.1 ct'.2 Z (F0 mid pc' lsA' (v.map (am_cv (am_r G))).toList)) :
    W p l e R s mid args below meth c H locs ct.1 ct.2 Z (F0 mid pc lsA (st.map (am_cv (am_r G)))) := by
  obtain ⟨hf, hcl⟩ := am_cond_e h
  obtain ⟨f1, f2, f3, f4, f5⟩ := am_fit_e hf
  have hX' := hX
  obtain ⟨hx, hb, hml, hown, hnm, hts, hK, hCs, hB, hfr, hlo, hbc, hbs⟩ := hX
  cases d with
  | zero => exact hcl.elim
  | succ d =>
    have hM := am_met hcl hC (by rw [am_fl_len]; exact f2) (am_rgs_sub hgs (fun v hv => List.mem_of_mem_take (List.mem_reverse.mp hv)))
    have hroom : (am_rm d r).frames + 1 ≤ R.frames ∧ 8 + (am_ml r + 11) + (am_rm d r).locals ≤ R.locals := by
      have h41 := hC.2.2.2.2.1
      exact ⟨hfr, by show 8 + (am_ml r + 11) + 60 * d ≤ R.locals; omega⟩
    have hlen : ((st.take (am_np r)).reverse.map (am_cv (am_r G))).length = am_np r := by
      rw [List.length_map, List.length_reverse, List.length_take]; omega
    have fin : ∀ (v : Option am_V) (σ' : am_S) (H1 : Heap) (locs1 : List Loc), am_rt (am_rc r) (fun st' σ' => am_Sem G Zc l (d + 1) (m, pc + 3, ls, st', (ct.1 + (am_bud r).1, ct.2 + (am_bud r).2), σ') Q) (st.drop (am_np r)) v σ' → am_rgs v.toList → am_Hp G Zc σ' H1 → va_S (am_A G) s.heap H1 locs1 → W p l e R s mid args below meth c H1 locs1 (ct.1 + (am_bud r).1) (ct.2 + (am_bud r).2) Z (F0 mid (pc + 3) lsA ((v.map (am_cv (am_r G))).toList ++ (st.drop (am_np r)).map (am_cv (am_r G)))) := by
      intro v σ' H1 locs1 hq hrv hH1 hS1
      obtain ⟨st', hk, hs', hst'⟩ := am_rt_e (am_r G) hq
      rw [← hst']
      refine hk p e R s mid args below meth c H1 locs1 lsA Z hX' hH1 hS1 hl hgl ?_ ⟨f4, f5⟩ hret
      rw [hs']
      intro w hw
      rcases List.mem_append.mp hw with h1 | h1
      · exact hrv w h1
      · exact hgs w (List.mem_of_mem_drop h1)
    rcases hL with hL | hL
    · exact am_callW (va_runS ⟨hx, hb, hml, hown, hts⟩ hM ⟨callB_of (am_np r) hts (am_goodIn hC) rfl rfl rfl (hts _ hC.2.1) (hts _ hL) ⟨hC.2.2.1.1, hC.2.2.1.2, hpar⟩ hroom, hts _ hst⟩ ⟨am_PU_blind, am_pre_call hX' hH hS⟩ rfl hlen hl.1 (am_stack_split _ _ _) (lv_room (by rw [am_words_cv]; exact f3)) hdg ⟨by omega, by omega⟩) hS fin
    · exact am_callW (va_runSN ⟨hx, hb, hml, hown, hts⟩ hM ⟨va_cnB (am_np r) hts (am_goodIn hC) rfl rfl rfl (hCs.2.2.2.2 _ hL) (hts _ hC.2.1) ⟨hC.2.2.1.1, hC.2.2.1.2, hpar⟩ hroom, hts _ hst, trivial⟩ ⟨am_PU_blind, am_pre_call hX' hH hS⟩ rfl hlen hl.1 (am_stack_split _ _ _) (lv_room (by rw [am_words_cv]; exact f3)) hdg ⟨by omega, by omega⟩) hS fin
/-- invokespecial of a constructor -/
theorem am_invI {d m pc ix r : Nat} {st ls : List am_V} {ct : Nat × Nat} {σ : am_S} {Q : am_Q}
    (h : am_inv (am_cl (am_Sem G Zc l) d) (fun st' ct' σ' => am_Sem G Zc l d (m, pc + 3, ls, st', ct', σ') Q) r m st ct σ)
    (hdg : decode (am_by m) pc = .ok (.invokespecial ix, 3)) (hC : am_okC r) (hL : am_okL m ix r) (hnm1 : (am_y r).name = "<init>") (hrT : am_rT r = none) (hin : am_gw (Cond.instanceMethod (am_y r))) (hpar : (parseMethodDescriptor (am_y r).desc).map (fun d => d.parameters.length + 1) = some (am_np r))
    {b : Nat} {rr : List am_V} (hb0 : st.drop (am_np r - 1) = .inr (.inl b) :: rr)
    (hX : am_Ctx G Zc d m p R s mid args meth c) (hH : am_Hp G Zc σ H) (hS : va_S (am_A G) s.heap H locs) (hl : am_lh (am_r G) lsA (am_ml m) ls) (hgl : am_rgs ls) (hgs : am_rgs st)
    (hret : ∀ (v : Option am_V) (σ' : am_S) (H' : Heap) (locs' : List Loc) (ct' : Nat × Nat) (pc' : Nat) (lsA' : Array Slot), Q v σ' → am_rgs v.toList → am_Hp G Zc σ' H' → va_S (am_A G) s.heap H' locs' → ct'.1 ≤ (am_bud m).1 ∧ ct'.2 ≤ (am_bud m).2 → am_isR m pc' v → W p l e R s mid args below meth c H' locs' ct'.1 ct'.2 Z (F0 mid pc' lsA' (v.map (am_cv (am_r G))).toList)) :
    W p l e R s mid args below meth c H locs ct.1 ct.2 Z (F0 mid pc lsA (st.map (am_cv (am_r G)))) := by
  obtain ⟨hf, hcl⟩ := am_cond_e h
  obtain ⟨f1, f2, f3, f4, f5⟩ := am_fit_e hf
  have hX' := hX
  obtain ⟨hx, hb, hml, hown, hnm, hts, hK, hCs, hB, hfr, hlo, hbc, hbs⟩ := hX
  obtain ⟨sig, hsig, hsn⟩ := Option.map_eq_some_iff.mp hpar
  have hnp : 0 < am_np r := by omega
  have hpar' : (parseMethodDescriptor (am_y r).desc).map (fun d => d.parameters.length) = some (am_np r - 1) := by
    rw [hsig]; show some sig.parameters.length = _; congr 1; omega
  obtain ⟨s1, s2, s3⟩ := am_recv_split hnp f1 hb0
  cases d with
  | zero => exact hcl.elim
  | succ d =>
    have hM := am_met hcl hC (by rw [am_fl_len]; exact f2) (am_rgs_sub hgs (fun v hv => List.mem_of_mem_take (List.mem_reverse.mp hv)))
    rw [s1] at hM
    have hM : Met l (am_y r) (am_ws r) (am_rm d r) (va_Pc (Value.ref (am_r G b) :: (st.take (am_np r - 1)).reverse.map (am_cv (am_r G))) (am_PU G Zc _)) (am_Qc G Zc _) (am_bud r).1 (am_bud r).2 (am_A G) := hM
    have hroom : (am_rm d r).frames + 1 ≤ R.frames ∧ 8 + (am_ml r + 11) + (am_rm d r).locals ≤ R.locals := by
      have h41 := hC.2.2.2.2.1
      exact ⟨hfr, by show 8 + (am_ml r + 11) + 60 * d ≤ R.locals; omega⟩
    have hlen : ((st.take (am_np r - 1)).reverse.map (am_cv (am_r G))).length = am_np r - 1 := by
      rw [List.length_map, List.length_reverse, s3]
    have hstk : st.map (am_cv (am_r G)) = ((st.take (am_np r - 1)).reverse.map (am_cv (am_r G))).reverse ++ .ref (am_r G b) :: (st.drop (am_np r)).map (am_cv (am_r G)) := by
      rw [am_stack_split _ _ (am_np r - 1), hb0, s2]; rfl
    have fin : ∀ (v : Option am_V) (σ' : am_S) (H1 : Heap) (locs1 : List Loc), am_rt (am_rc r) (fun st' σ' => am_Sem G Zc l (d + 1) (m, pc + 3, ls, st', (ct.1 + (am_bud r).1, ct.2 + (am_bud r).2), σ') Q) (st.drop (am_np r)) v σ' → am_rgs v.toList → am_Hp G Zc σ' H1 → va_S (am_A G) s.heap H1 locs1 → W p l e R s mid args below meth c H1 locs1 (ct.1 + (am_bud r).1) (ct.2 + (am_bud r).2) Z (F0 mid (pc + 3) lsA ((v.map (am_cv (am_r G))).toList ++ (st.drop (am_np r)).map (am_cv (am_r G)))) := by
      intro v σ' H1 locs1 hq hrv hH1 hS1
      obtain ⟨st', hk, hs', hst'⟩ := am_rt_e (am_r G) hq
      rw [← hst']
      refine hk p e R s mid args below meth c H1 locs1 lsA Z hX' hH1 hS1 hl hgl ?_ ⟨f4, f5⟩ hret
      rw [hs']
      intro w hw
      rcases List.mem_append.mp hw with h1 | h1
      · exact hrv w h1
      · exact hgs w (List.mem_of_mem_drop h1)
    rcases hL with hL | hL
    · exact am_callW (va_runI (b := am_r G b) (As := (st.take (am_np r - 1)).reverse.map (am_cv (am_r G))) ⟨hx, hb, hml, hown, hts⟩ hM ⟨by rw [← hrT]; exact callB_of (am_np r - 1) hts (am_goodIn hC) rfl rfl rfl (hts _ hC.2.1) (hts _ hL) ⟨hC.2.2.1.1, hC.2.2.1.2, hpar'⟩ hroom, hnm1, hts _ hin⟩ ⟨am_PU_blind, am_pre_call (as := Value.ref (am_r G b) :: _) hX' hH hS⟩ rfl hlen hl.1 hstk (lv_room (by rw [am_words_cv]; exact f3)) hdg ⟨by omega, by omega⟩) hS fin
    · exact am_callW (va_runIN (b := am_r G b) (As := (st.take (am_np r - 1)).reverse.map (am_cv (am_r G))) ⟨hx, hb, hml, hown, hts⟩ hM ⟨by rw [← hrT]; exact va_cnB (am_np r - 1) hts (am_goodIn hC) rfl rfl rfl (hCs.2.2.2.2 _ hL) (hts _ hC.2.1) ⟨hC.2.2.1.1, hC.2.2.1.2, hpar'⟩ hroom, hnm1, hts _ hin⟩ ⟨am_PU_blind, am_pre_call (as := Value.ref (am_r G b) :: _) hX' hH hS⟩ rfl hlen hl.1 hstk (lv_room (by rw [am_words_cv]; exact f3)) hdg ⟨by omega, by omega⟩) hS fin
/-- the receiver of a call -/
theorem am_recv {d m r : Nat} {n : Nat} {K : Nat → am_K} {I : Nat → Nat → Int} {L : Nat → Nat → Int} {Rf : Nat → Nat → Option Nat} {b : Nat} (hX : am_Ctx G Zc d m p R s mid args meth c) (hH : am_Hp G Zc (n, K, I, L, Rf) H) (hS : va_S (am_A G) s.heap H locs) (hk : K b = .inl (am_rcv r)) (hn : match am_cls[am_rcv r]? with
      | some q => q.1 = (am_y r).cls
      | none => am_cn (am_rcv r) = (am_y r).cls) : ∃ cellB : Cell, H[am_r G b]? = some cellB ∧ cellB.vm.isStatics = false ∧ s.vm.findClass (am_y r).cls = some cellB.cls := by
  obtain ⟨-, -, -, -, -, -, hK, hCs, -⟩ := hX
  have hlt : b < n := hH.lt (by rw [hk]; exact fun q => by cases q)
  by_cases hb : b < am_nc
  · have hz := (hH.2.2.2.2.1 b hb).1
    have h1 := hCs.1 b hb
    rw [← hz, hk] at h1
    dsimp only at h1
    rw [h1.1] at hn
    dsimp only at hn
    obtain ⟨cell, g1, g2, g3, g4⟩ := h1.2.1
    exact ⟨cell, by rw [hS.2.1 _ (Array.getElem?_eq_some_iff.mp g1).1 g4]; exact g1, g2, by rw [← hn]; exact g3⟩
  · have h1 := hH.2.2.2.1 b (by omega) hlt
    unfold am_cell at h1
    rw [hk] at h1
    obtain ⟨q, q1, cell, q2, q3, q4, -⟩ := h1
    rw [q1] at hn
    dsimp only at hn
    exact ⟨cell, q2, by rw [q4]; rfl, by rw [q3, ← hn]; exact (hK.1 _ q q1).2.1⟩
/-- invokevirtual -/
theorem am_invV {d m pc ix r : Nat} {st ls : List am_V} {ct : Nat × Nat} {n : Nat} {K : Nat → am_K} {I : Nat → Nat → Int} {L : Nat → Nat → Int} {Rf : Nat → Nat → Option Nat} {Q : am_Q}
    (h : am_inv (am_cl (am_Sem G Zc l) d) (fun st' ct' σ' => am_Sem G Zc l d (m, pc + 3, ls, st', ct', σ') Q) r m st ct (n, K, I, L, Rf))
    (hdg : decode (am_by m) pc = .ok (.invokevirtual ix, 3)) (hC : am_okC r) (hL : am_okL m ix r) (hin : am_gw (Cond.instanceMethod (am_y r))) (hpar : (parseMethodDescriptor (am_y r).desc).map (fun d => d.parameters.length + 1) = some (am_np r)) (hse : am_gw (Cond.selects (am_y r).cls (am_y r) (am_y r))) (hcn : match am_cls[am_rcv r]? with
      | some q => q.1 = (am_y r).cls
      | none => am_cn (am_rcv r) = (am_y r).cls)
    {b : Nat} {rr : List am_V} (hb0 : st.drop (am_np r - 1) = .inr (.inl b) :: rr) (hkb : K b = .inl (am_rcv r))
    (hX : am_Ctx G Zc d m p R s mid args meth c) (hH : am_Hp G Zc (n, K, I, L, Rf) H) (hS : va_S (am_A G) s.heap H locs) (hl : am_lh (am_r G) lsA (am_ml m) ls) (hgl : am_rgs ls) (hgs : am_rgs st)
    (hret : ∀ (v : Option am_V) (σ' : am_S) (H' : Heap) (locs' : List Loc) (ct' : Nat × Nat) (pc' : Nat) (lsA' : Array Slot), Q v σ' → am_rgs v.toList → am_Hp G Zc σ' H' → va_S (am_A G) s.heap H' locs' → ct'.1 ≤ (am_bud m).1 ∧ ct'.2 ≤ (am_bud m).2 → am_isR m pc' v → W p l e R s mid args below meth c H' locs' ct'.1 ct'.2 Z (F0 mid pc' lsA' (v.map (am_cv (am_r G))).toList)) :
    W p l e R s mid args below meth c H locs ct.1 ct.2 Z (F0 mid pc lsA (st.map (am_cv (am_r G)))) := by
  obtain ⟨hf, hcl⟩ := am_cond_e h
  obtain ⟨f1, f2, f3, f4, f5⟩ := am_fit_e hf
  have hX' := hX
  have hrv := am_recv (r := r) hX hH hS hkb hcn
  obtain ⟨hx, hb, hml, hown, hnm, hts, hK, hCs, hB, hfr, hlo, hbc, hbs⟩ := hX
  obtain ⟨sig, hsig, hsn⟩ := Option.map_eq_some_iff.mp hpar
  have hnp : 0 < am_np r := by omega
  have hpar' : (parseMethodDescriptor (am_y r).desc).map (fun d => d.parameters.length) = some (am_np r - 1) := by
    rw [hsig]; show some sig.parameters.length = _; congr 1; omega
  obtain ⟨s1, s2, s3⟩ := am_recv_split hnp f1 hb0
  cases d with
  | zero => exact hcl.elim
  | succ d =>
    have hM := am_met hcl hC (by rw [am_fl_len]; exact f2) (am_rgs_sub hgs (fun v hv => List.mem_of_mem_take (List.mem_reverse.mp hv)))
    rw [s1] at hM
    have hM : Met l (am_y r) (am_ws r) (am_rm d r) (va_Pc (Value.ref (am_r G b) :: (st.take (am_np r - 1)).reverse.map (am_cv (am_r G))) (am_PU G Zc _)) (am_Qc G Zc _) (am_bud r).1 (am_bud r).2 (am_A G) := hM
    have hroom : (am_rm d r).frames + 1 ≤ R.frames ∧ 8 + (am_ml r + 11) + (am_rm d r).locals ≤ R.locals := by
      have h41 := hC.2.2.2.2.1
      exact ⟨hfr, by show 8 + (am_ml r + 11) + 60 * d ≤ R.locals; omega⟩
    have hlen : ((st.take (am_np r - 1)).reverse.map (am_cv (am_r G))).length = am_np r - 1 := by
      rw [List.length_map, List.length_reverse, s3]
    have hstk : st.map (am_cv (am_r G)) = ((st.take (am_np r - 1)).reverse.map (am_cv (am_r G))).reverse ++ .ref (am_r G b) :: (st.drop (am_np r)).map (am_cv (am_r G)) := by
      rw [am_stack_split _ _ (am_np r - 1), hb0, s2]; rfl
    have fin : ∀ (v : Option am_V) (σ' : am_S) (H1 : Heap) (locs1 : List Loc), am_rt (am_rc r) (fun st' σ' => am_Sem G Zc l (d + 1) (m, pc + 3, ls, st', (ct.1 + (am_bud r).1, ct.2 + (am_bud r).2), σ') Q) (st.drop (am_np r)) v σ' → am_rgs v.toList → am_Hp G Zc σ' H1 → va_S (am_A G) s.heap H1 locs1 → W p l e R s mid args below meth c H1 locs1 (ct.1 + (am_bud r).1) (ct.2 + (am_bud r).2) Z (F0 mid (pc + 3) lsA ((v.map (am_cv (am_r G))).toList ++ (st.drop (am_np r)).map (am_cv (am_r G)))) := by
      intro v σ' H1 locs1 hq hrv hH1 hS1
      obtain ⟨st', hk, hs', hst'⟩ := am_rt_e (am_r G) hq
      rw [← hst']
      refine hk p e R s mid args below meth c H1 locs1 lsA Z hX' hH1 hS1 hl hgl ?_ ⟨f4, f5⟩ hret
      rw [hs']
      intro w hw
      rcases List.mem_append.mp hw with h1 | h1
      · exact hrv w h1
      · exact hgs w (List.mem_of_mem_drop h1)
    rcases hL with hL | hL
    · exact am_callW (va_runV (C := (am_y r).cls) (b := am_r G b) (As := (st.take (am_np r - 1)).reverse.map (am_cv (am_r G))) ⟨hx, hb, hml, hown, hts⟩ hM ⟨callB_of (am_np r - 1) hts (am_goodIn hC) rfl rfl rfl (hts _ hC.2.1) (hts _ hL) ⟨hC.2.2.1.1, hC.2.2.1.2, hpar'⟩ hroom, hts _ hin, hts _ hse⟩ ⟨am_PU_blind, hrv, am_pre_call (as := Value.ref (am_r G b) :: _) hX' hH hS⟩ rfl hlen hl.1 hstk (lv_room (by rw [am_words_cv]; exact f3)) hdg ⟨by omega, by omega⟩) hS fin
    · exact am_callW (va_runVN (C := (am_y r).cls) (b := am_r G b) (As := (st.take (am_np r - 1)).reverse.map (am_cv (am_r G))) ⟨hx, hb, hml, hown, hts⟩ hM ⟨va_cnB (am_np r - 1) hts (am_goodIn hC) rfl rfl rfl (hCs.2.2.2.2 _ hL) (hts _ hC.2.1) ⟨hC.2.2.1.1, hC.2.2.1.2, hpar'⟩ hroom, hts _ hin, hts _ hse⟩ ⟨am_PU_blind, hrv, am_pre_call (as := Value.ref (am_r G b) :: _) hX' hH hS⟩ rfl hlen hl.1 hstk (lv_room (by rw [am_words_cv]; exact f3)) hdg ⟨by omega, by omega⟩) hS fin
end AMC
