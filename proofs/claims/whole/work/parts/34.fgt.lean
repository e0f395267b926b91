/-! A place of the locals of which nothing is said may hold anything. -/
def am_le (l' l : List am_V) : Prop := l'.length = l.length ∧ ∀ i : Nat, l'[i]? = some am_o ∨ l'[i]? = l[i]?
theorem am_le_get {l' l : List am_V} {i : Nat} {v : am_V} (h : am_le l' l) (hv : l'[i]? = some v) (hn : v ≠ am_o) : l[i]? = some v := by
  rcases h.2 i with q | q
  · rw [hv] at q
    exact absurd (Option.some.inj q) hn
  · rw [← q]; exact hv
theorem am_gi_le {l' l : List am_V} {i : Nat} {f : Int → Prop} (h : am_le l' l) (z : am_gi l' i f) : am_gi l i f := by
  obtain ⟨x, hx, hf⟩ := am_gi_e z
  unfold am_gi
  rw [am_le_get h hx (fun q => by cases q)]
  exact hf
theorem am_gl_le {l' l : List am_V} {i : Nat} {f : Int → Prop} (h : am_le l' l) (z : am_gl l' i f) : am_gl l i f := by
  obtain ⟨x, hx, hf⟩ := am_gl_e z
  unfold am_gl
  rw [am_le_get h hx (fun q => by cases q)]
  exact hf
theorem am_ga_le {l' l : List am_V} {i : Nat} {f : Nat → Prop} (h : am_le l' l) (z : am_ga l' i f) : am_ga l i f := by
  obtain ⟨x, hx, hf⟩ := am_ga_e z
  unfold am_ga
  rw [am_le_get h hx (fun q => by cases q)]
  exact hf
theorem am_le_set {l' l : List am_V} {i : Nat} {v : am_V} (h : am_le l' l) : am_le (l'.set i v) (l.set i v) := by
  refine ⟨by simp [h.1], fun j => ?_⟩
  by_cases e : i = j
  · subst e
    refine Or.inr ?_
    rw [List.getElem?_set, List.getElem?_set, h.1, if_pos rfl, if_pos rfl]
  · rw [List.getElem?_set_ne e, List.getElem?_set_ne e]
    exact h.2 j
theorem am_le_clr {l' l : List am_V} (h : am_le l' l) : ∀ i : Nat, am_le (am_clr l' i) (am_clr l i)
  | 0 => h
  | j + 1 => by
    by_cases hL : ∃ x, l'[j]? = some (.inr (.inr (some x)))
    · obtain ⟨x, hx⟩ := hL
      have hx2 := am_le_get h hx (fun q => by cases q)
      have e1 : am_clr l' (j + 1) = l'.set j (.inr (.inr none)) := by simp [am_clr, hx]
      have e2 : am_clr l (j + 1) = l.set j (.inr (.inr none)) := by simp [am_clr, hx2]
      rw [e1, e2]
      exact am_le_set h
    · have e1 : am_clr l' (j + 1) = l' := by
        unfold am_clr
        split
        · rfl
        · rename_i q
          cases q
          split
          · rename_i x hx
            exact absurd ⟨x, hx⟩ hL
          · rfl
      rw [e1]
      by_cases hL2 : ∃ x, l[j]? = some (.inr (.inr (some x)))
      · obtain ⟨x, hx⟩ := hL2
        have e2 : am_clr l (j + 1) = l.set j (.inr (.inr none)) := by simp [am_clr, hx]
        rw [e2]
        refine ⟨by simp [h.1], fun k => ?_⟩
        by_cases e : j = k
        · subst e
          rcases h.2 j with q | q
          · exact Or.inl q
          · exact absurd ⟨x, q.trans hx⟩ hL
        · rw [List.getElem?_set_ne e]
          exact h.2 k
      · have e2 : am_clr l (j + 1) = l := by
          unfold am_clr
          split
          · rfl
          · rename_i q
            cases q
            split
            · rename_i x hx
              exact absurd ⟨x, hx⟩ hL2
            · rfl
        rw [e2]
        exact h
theorem am_le_st1 {l' l : List am_V} {i : Nat} {v : am_V} (h : am_le l' l) : am_le (am_st1 l' i v) (am_st1 l i v) := am_le_set (am_le_clr h i)
theorem am_le_st2 {l' l : List am_V} {i : Nat} {v : am_V} (h : am_le l' l) : am_le (am_st2 l' i v) (am_st2 l i v) := am_le_set (am_le_set (am_le_clr h i))
set_option maxHeartbeats 4000000 in
theorem am_ins_le {d : Nat} {k k' : am_C → Prop} {cl : Nat → List am_V → am_S → am_Q → Prop} {Q : am_Q} {m : Nat} (hm : ∀ r as σ (Q1 Q2 : am_Q), (∀ v σ, Q1 v σ → Q2 v σ) → cl r as σ Q1 → cl r as σ Q2) (hk : ∀ (pc : Nat) (l' l st : List am_V) (ct : Nat × Nat) (σ : am_S), am_le l' l → k (m, pc, l', st, ct, σ) → k' (m, pc, l, st, ct, σ))
    (i : Jvm.ClassFile.Instr) (nx : Nat) (ls ls2 st : List am_V) (ct : Nat × Nat) (n : Nat) (K : Nat → am_K) (I : Nat → Nat → Int) (L : Nat → Nat → Int) (R : Nat → Nat → Option Nat) (hle : am_le ls ls2) (h : am_ins d k cl Q i m nx ls st ct n K I L R) : am_ins d k' cl Q i m nx ls2 st ct n K I L R := by
  have hk1 : ∀ (pc : Nat) (st : List am_V) (ct : Nat × Nat) (σ : am_S), k (m, pc, ls, st, ct, σ) → k' (m, pc, ls2, st, ct, σ) := fun pc st ct σ => hk pc ls ls2 st ct σ hle
  cases i with
  | iconst v => exact hk1 _ _ _ _ h
  | bipush v => exact hk1 _ _ _ _ h
  | sipush v => exact hk1 _ _ _ _ h
  | lconst v => exact hk1 _ _ _ _ h
  | jsr v => exact hk1 _ _ _ _ h
  | jsr_w v => exact hk1 _ _ _ _ h
  | goto_w v => exact hk1 _ _ _ _ h
  | ldc v => exact hk1 _ _ _ _ h
  | getstatic v => exact hk1 _ _ _ _ h
  | goto v => exact hk1 _ _ _ _ h
  | iload v => exact am_gi_le hle (am_gi_mono (fun _ z => hk1 _ _ _ _ z) h)
  | iload_n v => exact am_gi_le hle (am_gi_mono (fun _ z => hk1 _ _ _ _ z) h)
  | lload v => exact am_gl_le hle (am_gl_mono (fun _ z => hk1 _ _ _ _ z) h)
  | lload_n v => exact am_gl_le hle (am_gl_mono (fun _ z => hk1 _ _ _ _ z) h)
  | aload v => exact am_ga_le hle (am_ga_mono (fun _ z => hk1 _ _ _ _ z) h)
  | aload_n v => exact am_ga_le hle (am_ga_mono (fun _ z => hk1 _ _ _ _ z) h)
  | istore v => exact am_i1_mono (fun _ _ z => hk _ _ _ _ _ _ (am_le_st1 hle) z) h
  | istore_n v => exact am_i1_mono (fun _ _ z => hk _ _ _ _ _ _ (am_le_st1 hle) z) h
  | lstore v => exact am_l1_mono (fun _ _ z => hk _ _ _ _ _ _ (am_le_st2 hle) z) h
  | lstore_n v => exact am_l1_mono (fun _ _ z => hk _ _ _ _ _ _ (am_le_st2 hle) z) h
  | astore v => exact am_r1_mono (fun _ _ z => hk _ _ _ _ _ _ (am_le_st1 hle) z) h
  | astore_n v => exact am_r1_mono (fun _ _ z => hk _ _ _ _ _ _ (am_le_st1 hle) z) h
  | iinc v w => exact am_gi_le hle (am_gi_mono (fun _ => am_ar_mono (fun _ z => hk _ _ _ _ _ _ (am_le_st1 hle) z)) h)
  | iadd => exact am_i2_mono (fun _ _ _ => am_ar_mono (fun _ => hk1 _ _ _ _)) h
  | isub => exact am_i2_mono (fun _ _ _ => am_ar_mono (fun _ => hk1 _ _ _ _)) h
  | imul => exact am_i2_mono (fun _ _ _ => am_ar_mono (fun _ => hk1 _ _ _ _)) h
  | iand => exact am_i2_mono (fun _ _ _ => am_nm_mono (fun _ => hk1 _ _ _ _)) h
  | ior => exact am_i2_mono (fun _ _ _ => am_nm_mono (fun _ => hk1 _ _ _ _)) h
  | ixor => exact am_i2_mono (fun _ _ _ => am_nm_mono (fun _ => hk1 _ _ _ _)) h
  | idiv => exact am_i2_mono (fun _ _ _ z => ⟨z.1, am_nm_mono (fun _ => hk1 _ _ _ _) z.2⟩) h
  | irem => exact am_i2_mono (fun _ _ _ z => ⟨z.1, am_nm_mono (fun _ => hk1 _ _ _ _) z.2⟩) h
  | ishl => exact am_i2_mono (fun _ _ _ => am_nm_mono (fun _ => hk1 _ _ _ _)) h
  | ishr => exact am_i2_mono (fun _ _ _ => am_nm_mono (fun _ => hk1 _ _ _ _)) h
  | iushr => exact am_i2_mono (fun _ _ _ => am_nm_mono (fun _ => hk1 _ _ _ _)) h
  | ineg => exact am_i1_mono (fun _ _ => am_ar_mono (fun _ => hk1 _ _ _ _)) h
  | i2l => exact am_i1_mono (fun _ _ z => hk1 _ _ _ _ z) h
  | i2c => exact am_i1_mono (fun _ _ => am_nm_mono (fun _ => hk1 _ _ _ _)) h
  | i2b => exact am_i1_mono (fun _ _ => am_nm_mono (fun _ => hk1 _ _ _ _)) h
  | l2i => exact am_l1_mono (fun _ _ => am_nm_mono (fun _ => hk1 _ _ _ _)) h
  | ladd => exact am_l2_mono (fun _ _ _ => am_al_mono (fun _ => hk1 _ _ _ _)) h
  | lsub => exact am_l2_mono (fun _ _ _ => am_al_mono (fun _ => hk1 _ _ _ _)) h
  | lmul => exact am_l2_mono (fun _ _ _ => am_al_mono (fun _ => hk1 _ _ _ _)) h
  | land => exact am_l2_mono (fun _ _ _ => am_nl_mono (fun _ => hk1 _ _ _ _)) h
  | lor => exact am_l2_mono (fun _ _ _ => am_nl_mono (fun _ => hk1 _ _ _ _)) h
  | lxor => exact am_l2_mono (fun _ _ _ => am_nl_mono (fun _ => hk1 _ _ _ _)) h
  | lcmp => exact am_l2_mono (fun _ _ _ => am_nm_mono (fun _ => hk1 _ _ _ _)) h
  | lshl => exact am_li_mono (fun _ _ _ => am_nl_mono (fun _ => hk1 _ _ _ _)) h
  | lshr => exact am_li_mono (fun _ _ _ => am_nl_mono (fun _ => hk1 _ _ _ _)) h
  | lushr => exact am_li_mono (fun _ _ _ => am_nl_mono (fun _ => hk1 _ _ _ _)) h
  | dup => exact am_v1_mono (fun _ _ z => hk1 _ _ _ _ z) h
  | pop => exact am_v1_mono (fun _ _ z => hk1 _ _ _ _ z) h
  | dup_x1 => exact am_v2_mono (fun _ _ _ z => hk1 _ _ _ _ z) h
  | dup2 => exact am_v2_mono (fun _ _ _ z => hk1 _ _ _ _ z) h
  | ifCond c t => exact am_i1_mono (fun _ _ z => am_br_mono (hk1 _ _ _ _) (hk1 _ _ _ _) z) h
  | if_icmp c t => exact am_i2_mono (fun _ _ _ z => am_br_mono (hk1 _ _ _ _) (hk1 _ _ _ _) z) h
  | tableswitch a b c e => exact am_i1_mono (fun _ _ z => am_sw_mono (fun _ => hk1 _ _ _ _) _ z) h
  | lookupswitch a b => exact am_i1_mono (fun _ _ z => am_sw_mono (fun _ => hk1 _ _ _ _) _ z) h
  | getfield q => exact am_r1_mono (fun _ _ z => ⟨z.1, am_get_mono (fun _ => hk1 _ _ _ _) z.2⟩) h
  | putfield q => exact am_put_mono (fun _ _ _ => hk1 _ _ _ _) (fun _ _ _ => hk1 _ _ _ _) (fun _ _ _ => hk1 _ _ _ _) h
  | iaload => exact am_ai_mono (fun _ _ _ ⟨len, z1, z2, z3⟩ => ⟨len, z1, z2, am_nm_mono (fun _ => hk1 _ _ _ _) z3⟩) h
  | baload => exact am_ai_mono (fun _ _ _ ⟨len, z1, z2, z3⟩ => ⟨len, z1, z2, am_nm_mono (fun _ => hk1 _ _ _ _) z3⟩) h
  | laload => exact am_ai_mono (fun _ _ _ ⟨len, z0, z1, z2, z3⟩ => ⟨len, z0, z1, z2, am_nl_mono (fun _ => hk1 _ _ _ _) z3⟩) h
  | iastore => exact am_aii_mono (fun _ _ _ _ ⟨len, z0, z1, z2, z3⟩ => ⟨len, z0, z1, z2, hk1 _ _ _ _ z3⟩) h
  | bastore => exact am_aii_mono (fun _ _ _ _ ⟨len, z0, z1, z2, z3⟩ => ⟨len, z0, z1, z2, hk1 _ _ _ _ z3⟩) h
  | lastore => exact am_ail_mono (fun _ _ _ _ ⟨len, z0, z1, z2, z3⟩ => ⟨len, z0, z1, z2, hk1 _ _ _ _ z3⟩) h
  | arraylength => exact am_r1_mono (fun _ _ ⟨t, len, z1, z2, z4, z3⟩ => ⟨t, len, z1, z2, z4, hk1 _ _ _ _ z3⟩) h
  | new c => exact am_cond_mono (hk1 _ _ _ _) h
  | newarray t => exact am_i1_mono (fun _ _ z => ⟨z.1, z.2.1, hk1 _ _ _ _ z.2.2⟩) h
  | invokestatic r =>
    match r, h with
    | 0, h =>
      have h1 : am_inv cl (fun st' ct' σ' => k (m, nx, ls, st', ct', σ')) 0 m st ct (n, K, I, L, R) := h
      exact am_inv_mono (k' := fun st' ct' σ' => k' (m, nx, ls2, st', ct', σ')) hm (fun _ _ _ => hk1 _ _ _ _) h1
    | 1, h => exact am_i2_mono (fun _ _ _ z => ⟨z.1, am_cond_mono (hk1 _ _ _ _) z.2⟩) h
    | 2, h => exact am_i2_mono (fun _ _ _ z => am_cond_mono (am_nm_mono (fun _ => hk1 _ _ _ _)) z) h
    | 3, h => exact am_i2_mono (fun _ _ _ z => am_cond_mono (am_nm_mono (fun _ => hk1 _ _ _ _)) z) h
    | r + 4, h =>
      have h1 : am_inv cl (fun st' ct' σ' => k (m, nx, ls, st', ct', σ')) (r + 4) m st ct (n, K, I, L, R) := h
      exact am_inv_mono (k' := fun st' ct' σ' => k' (m, nx, ls2, st', ct', σ')) hm (fun _ _ _ => hk1 _ _ _ _) h1
  | invokespecial r =>
    cases r with
    | zero => exact am_r1_mono (fun _ _ z => am_cond_mono (hk1 _ _ _ _) z) h
    | succ r => exact am_r1_mono (fun _ _ z => am_inv_mono hm (fun _ _ _ => hk1 _ _ _ _) z) h
  | invokevirtual r => exact am_r1_mono (fun _ _ z => ⟨z.1, am_inv_mono hm (fun _ _ _ => hk1 _ _ _ _) z.2⟩) h
  | ireturn => exact h
  | lreturn => exact h
  | areturn => exact h
  | return_ => exact h
  | _ => exact h.elim
/-- nothing said of a local is less than anything said of it -/
theorem am_WP.forget {d m pc : Nat} {ls st : List am_V} {ct : Nat × Nat} {σ : am_S} {Q : am_Q} (h : am_WP d (m, pc, ls, st, ct, σ) Q) : ∀ ls2, am_le ls ls2 → am_WP d (m, pc, ls2, st, ct, σ) Q := by
  have key : ∀ (d : Nat) (c : am_C) (Q : am_Q), am_WP d c Q → ∀ ls2, am_le c.2.2.1 ls2 → am_WP d (c.1, c.2.1, ls2, c.2.2.2) Q := by
    intro d c Q h
    refine (h (fun d c Q => am_WP d c Q ∧ ∀ ls2, am_le c.2.2.1 ls2 → am_WP d (c.1, c.2.1, ls2, c.2.2.2) Q) ?_).2
    intro d c Q hs
    have hcl : ∀ r as σ (Q1 Q2 : am_Q), (∀ v σ, Q1 v σ → Q2 v σ) → am_cl (fun d c Q => am_WP d c Q ∧ ∀ ls2, am_le c.2.2.1 ls2 → am_WP d (c.1, c.2.1, ls2, c.2.2.2) Q) d r as σ Q1 → am_cl am_WP d r as σ Q2 := by
      intro r as σ Q1 Q2 h12 z
      cases d with
      | zero => exact z.elim
      | succ e => exact am_WP.mono h12 z.1
    have h1 : am_step d (fun c' => am_WP d c' Q ∧ ∀ ls2, am_le c'.2.2.1 ls2 → am_WP d (c'.1, c'.2.1, ls2, c'.2.2.2) Q) (am_cl am_WP d) Q c := am_step_mono (Nat.le_refl _) (fun _ z => z) hcl (fun _ _ z => z) c hs
    refine ⟨am_WP.step (am_step_mono (d := d) (cl := am_cl am_WP d) (cl' := am_cl am_WP d) (Nat.le_refl _) (fun _ z => z.1) (fun _ _ _ _ _ h12 z => am_cl_mono h12 z) (fun _ _ z => z) c h1), ?_⟩
    obtain ⟨m, pc, ls, st, ct, n, K, I, L, R⟩ := c
    intro ls2 hle
    refine am_WP.step ?_
    unfold am_step at h1 ⊢
    dsimp only at h1 ⊢
    cases hc : am_code m pc with
    | none => rw [hc] at h1; exact h1.elim
    | some q =>
      obtain ⟨i, nx, ix⟩ := q
      rw [hc] at h1
      exact am_ins_le (d := d) (cl := am_cl am_WP d) (Q := Q) (k := fun c' => am_WP d c' Q ∧ ∀ (ls2 : List am_V), am_le c'.2.2.1 ls2 → am_WP d (c'.1, c'.2.1, ls2, c'.2.2.2) Q) (k' := fun c' => am_WP d c' Q) (fun _ _ _ _ _ h12 z => am_cl_mono h12 z) (fun pc l' l st ct σ hl z => z.2 l hl) i nx ls ls2 st ct n K I L R hle h1
  intro ls2 hle
  exact key d (m, pc, ls, st, ct, σ) Q h ls2 hle
theorem am_le_nil : am_le [] [] := ⟨rfl, fun _ => Or.inr rfl⟩
theorem am_le_eq {v : am_V} {l' l : List am_V} (h : am_le l' l) : am_le (v :: l') (v :: l) := by
  refine ⟨by simp [h.1], fun i => ?_⟩
  cases i with
  | zero => exact Or.inr rfl
  | succ i => simpa using h.2 i
theorem am_le_o {v : am_V} {l' l : List am_V} (h : am_le l' l) : am_le (am_o :: l') (v :: l) := by
  refine ⟨by simp [h.1], fun i => ?_⟩
  cases i with
  | zero => exact Or.inl rfl
  | succ i => simpa using h.2 i
