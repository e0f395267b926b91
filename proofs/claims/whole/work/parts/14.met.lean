section AMM
variable {G : am_G} {Zc : am_Z} {l : Launch}
theorem am_rT_of {rc : Nat} {t : Option FieldType} (h : am_rcT rc t) : (rc = 0 → t = none) ∧ (rc = 2 → t = some .long) ∧ (rc = 3 → ∃ u : FieldType, t = some u ∧ ((∃ n, u = .object n) ∨ ∃ v, u = .array v)) := by
  refine ⟨fun e => ?_, fun e => ?_, fun e => ?_⟩ <;> subst e <;> exact h
/-- a method's contract out of its run in the small machine -/
theorem am_met {d r : Nat} {as : List am_V} {σ : am_S} {Q : am_Q} (h : am_Sem G Zc l d (am_entry r as σ) Q) (hC : am_okC r) (hn : (lg_sl (as.map (am_cv (am_r G)))).length ≤ am_ml r) (hra : am_rgs as) :
    Met l (am_y r) (am_ws r) (am_rm d r) (va_Pc (as.map (am_cv (am_r G))) (am_PU G Zc σ)) (am_Qc G Zc Q) (am_bud r).1 (am_bud r).2 (am_A G) := by
  obtain ⟨-, -, -, hpl, -, hrc⟩ := hC
  refine Met.ofW (cc := am_by r) (maxL := am_ml r) (ret := am_rT r) hpl rfl ?_
  intro p e s m args below meth c s₁ B hml hv
  obtain ⟨rfl, hH, hK, hCs, hB⟩ := hv
  have hx := B.exec
  have hb := B.bytes
  have hr := B.returns
  have hts := atoms_spec (ws := am_ws r) B.pre
  have hown : s.vm.findClass (am_y r).cls = some m.cls := findClass_of_methodNamed B.named
  have hlocks := B.notSynchronized
  have hnm : meth.name = (am_y r).name := (name_of_methodNamed B.named B.method).1
  have hl := lv_entry (as.map (am_cv (am_r G))) (n := am_ml r) hn
  rw [lg_entry_eq]
  refine h p e _ s m _ below meth c s.heap [] _ _ ⟨hx, hb, hml, hown, fun q => hnm.trans q, fun w hw => hts w (List.mem_cons_of_mem _ hw), hK, hCs, hB, Nat.le_refl _, Nat.le_refl _, Nat.le_refl _, Nat.le_refl _⟩ hH va_S.rf (am_lh_entry hl) (am_rgs_entry hra) am_rgs_nil ⟨Nat.zero_le _, Nat.zero_le _⟩ ?_
  intro v σ' H' locs' ct' pc' lsA' hQ hrv hH' hS' hct hR
  refine W.widen hct.1 hct.2 ?_
  have fin : ∀ t : State, t.heap = H' → am_Qc G Zc Q (as.map (am_cv (am_r G))).toArray s (.returned (v.map (am_cv (am_r G)))) t := fun t ht => ⟨⟨v, σ', rfl, hQ, hrv, by rw [ht]; exact hH'⟩, hS'.F ht⟩
  match v, hR, fin with
  | none, hR, fin => exact W.vret hx hb (hr.trans ((am_rT_of hrc).1 hR.2)) (fun t ht _ => fin t ht) hS'.2.2 hR.1
  | some (.inl x), hR, fin =>
    obtain ⟨hd, hR⟩ := hR
    unfold am_ret at hR
    split at hR
    · rename_i e
      rw [e] at hrc
      exact W.iret hx hb (hr.trans hrc) (fun t ht _ => fin t ht) hS'.2.2 hd
    · rename_i e
      rw [e] at hrc
      exact W.zret hx hb (hr.trans hrc) (am_bool hR.1) (fun t ht _ => fin t ht) hS'.2.2 hd
    · rename_i e
      rw [e] at hrc
      exact W.zret hx hb (hr.trans hrc) (am_char hR.1) (fun t ht _ => fin t ht) hS'.2.2 hd
    · rename_i e
      rw [e] at hrc
      exact W.zret hx hb (hr.trans hrc) (am_byte hR.1) (fun t ht _ => fin t ht) hS'.2.2 hd
    · exact hR.elim
  | some (.inr (.inr (some x))), hR, fin => exact W.lret hx hb (hr.trans ((am_rT_of hrc).2.1 hR.2)) (fun t ht _ => fin t ht) hS'.2.2 hR.1
  | some (.inr (.inl x)), hR, fin =>
    obtain ⟨u, h1, h2⟩ := (am_rT_of hrc).2.2 hR.2
    exact W.aret hx hb (hr.trans h1) h2 (Or.inr ⟨_, rfl⟩) (fun t ht _ => fin t ht) hS'.2.2 hR.1
  | some (.inr (.inr none)), hR, _ => exact hR.elim
theorem am_Cst.warm {s U : State} (hW : s.WarmedH U.vm) (hk : ∀ a : Nat, a < s.heap.size → ¬ am_A G a → U.heap[a]? = s.heap[a]?) (h : am_Cst G Zc s) : am_Cst G Zc U := by
  obtain ⟨h1, h2, h3, h5, h6⟩ := h
  refine ⟨fun a ha => ?_, fun q hq => (h2 q hq).warm hW, fun q hq => ((h3 q hq).moved hW.alike).kept hk, (h5.moved hW.alike).kept hk, fun q hq => (h6 q hq).warmM hW⟩
  have h4 := h1 a ha
  split
  · rename_i ci e
    rw [e] at h4
    exact ⟨h4.1, (h4.2.1.moved hW.alike).kept hk, fun k hk' => ((h4.2.2 k hk').moved hW.alike).kept hk⟩
  · rename_i t len e
    rw [e] at h4
    exact fun ht => ((h4 ht).moved hW.alike).kept hk
theorem am_fl_len (ρ : Nat → Nat) : ∀ vs : List am_V, (lg_sl (vs.map (am_cv ρ))).length = (am_fl vs).length := by
  intro vs
  induction vs with
  | nil => rfl
  | cons v vs ih =>
    have e : lg_sl ((v :: vs).map (am_cv ρ)) = (if (am_cv ρ v).category = 2 then [.val (am_cv ρ v), .second] else [.val (am_cv ρ v)]) ++ lg_sl (vs.map (am_cv ρ)) := by
      simp [lg_sl]
    rw [e, List.length_append, ih, am_cv_cat]
    match v with
    | .inl x => simp [am_cat, am_fl]; omega
    | .inr (.inl a) => simp [am_cat, am_fl]; omega
    | .inr (.inr (some x)) => simp [am_cat, am_fl]; omega
    | .inr (.inr none) => simp [am_cat, am_fl]; omega
theorem am_PU_blind {as : List Value} {σ : am_S} : FrameBlind (va_Pc as (am_PU G Zc σ)) := by
  intro a U g mk q
  obtain ⟨q0, q1, q2, q3, q4⟩ := q
  exact ⟨q0, q1, va_K.moved (u := U) (U := U.calling g mk a) (Vm.Alike.refl U.vm) q2, am_Cst.warm (s := U) (U := U.calling g mk a) (State.WarmedH.refl U) (fun _ _ _ => rfl) q3, q4⟩
variable {p : Program} {e : Env} {R : Room} {s : State} {m : MethodId} {args : Array Value} {below : List Frame} {meth : Method} {c : Code} {H H0 : Heap} {locs : List Loc} {cells slots : Nat} {Z : State → Prop} {pc : Nat} {ls : Array Slot} {rest st0 : List Value} {a : Array Value} {mc ms : Nat}
/-- behind a call -/
theorem am_callW {Q : am_Q} (hr : va_Run p l e R s m args below meth c H locs cells slots mc ms (F0 m pc ls st0) rest (am_Qc G Zc Q a) (am_A G)) (hS : va_S (am_A G) H0 H locs)
    (kk : ∀ (v : Option am_V) (σ : am_S) (H1 : Heap) (locs1 : List Loc), Q v σ → am_rgs v.toList → am_Hp G Zc σ H1 → va_S (am_A G) H0 H1 locs1 → W p l e R s m args below meth c H1 locs1 (cells + mc) (slots + ms) Z (F0 m (pc + 3) ls ((v.map (am_cv (am_r G))).toList ++ rest))) : W p l e R s m args below meth c H locs cells slots Z (F0 m pc ls st0) := by
  intro T hT X
  obtain ⟨v, st₀, t, T', L, h0, X', hL, e1, e2, ⟨⟨v', u, hv, hp, hrv, hb⟩, hz, hk⟩, st⟩ := hr T hT X
  cases hv
  rw [h0] at hz hk
  obtain ⟨t2, a1, b1⟩ := kk v' u T'.heap (locs ++ L) hp hrv (by rw [e1]; exact hb)
    ⟨Nat.le_trans hS.1 (by rw [e1]; exact hz), fun q h1 h2 => by rw [e1, hk q (Nat.lt_of_lt_of_le h1 hS.1) h2]; exact hS.2.1 q h1 h2, fun q hq => by
      rcases List.mem_append.mp hq with h | h
      · exact hS.2.2 q h
      · exact hL q h⟩ T' rfl X'
  exact ⟨t2, st t2 a1, b1⟩
end AMM
