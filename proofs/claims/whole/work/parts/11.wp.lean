theorem am_ar_mono {e : Int} {f g : Int → Prop} (h : ∀ z, f z → g z) : am_ar e f → am_ar e g := fun w z q a b c => h z (w z q a b c)
theorem am_al_mono {e : Int} {f g : Int → Prop} (h : ∀ z, f z → g z) : am_al e f → am_al e g := fun w z q a b c => h z (w z q a b c)
theorem am_nm_mono {e : Int} {f g : Int → Prop} (h : ∀ z, f z → g z) : am_nm e f → am_nm e g := fun w z a b c => h z (w z a b c)
theorem am_nl_mono {e : Int} {f g : Int → Prop} (h : ∀ z, f z → g z) : am_nl e f → am_nl e g := fun w z a b c => h z (w z a b c)
theorem am_i1_mono {st : List am_V} {f g : Int → List am_V → Prop} (h : ∀ x r, f x r → g x r) : am_i1 st f → am_i1 st g := by
  unfold am_i1; split
  · exact h _ _
  · exact id
theorem am_i2_mono {st : List am_V} {f g : Int → Int → List am_V → Prop} (h : ∀ x y r, f x y r → g x y r) : am_i2 st f → am_i2 st g := by
  unfold am_i2; split
  · exact h _ _ _
  · exact id
theorem am_l1_mono {st : List am_V} {f g : Int → List am_V → Prop} (h : ∀ x r, f x r → g x r) : am_l1 st f → am_l1 st g := by
  unfold am_l1; split
  · exact h _ _
  · exact id
theorem am_l2_mono {st : List am_V} {f g : Int → Int → List am_V → Prop} (h : ∀ x y r, f x y r → g x y r) : am_l2 st f → am_l2 st g := by
  unfold am_l2; split
  · exact h _ _ _
  · exact id
theorem am_li_mono {st : List am_V} {f g : Int → Int → List am_V → Prop} (h : ∀ x y r, f x y r → g x y r) : am_li st f → am_li st g := by
  unfold am_li; split
  · exact h _ _ _
  · exact id
theorem am_r1_mono {st : List am_V} {f g : Nat → List am_V → Prop} (h : ∀ x r, f x r → g x r) : am_r1 st f → am_r1 st g := by
  unfold am_r1; split
  · exact h _ _
  · exact id
theorem am_ai_mono {st : List am_V} {f g : Nat → Int → List am_V → Prop} (h : ∀ x y r, f x y r → g x y r) : am_ai st f → am_ai st g := by
  unfold am_ai; split
  · exact h _ _ _
  · exact id
theorem am_aii_mono {st : List am_V} {f g : Nat → Int → Int → List am_V → Prop} (h : ∀ a x y r, f a x y r → g a x y r) : am_aii st f → am_aii st g := by
  unfold am_aii; split
  · exact h _ _ _ _
  · exact id
theorem am_ail_mono {st : List am_V} {f g : Nat → Int → Int → List am_V → Prop} (h : ∀ a x y r, f a x y r → g a x y r) : am_ail st f → am_ail st g := by
  unfold am_ail; split
  · exact h _ _ _ _
  · exact id
theorem am_ir_mono {st : List am_V} {f g : Nat → Int → List am_V → Prop} (h : ∀ x y r, f x y r → g x y r) : am_ir st f → am_ir st g := by
  unfold am_ir; split
  · exact h _ _ _
  · exact id
theorem am_lr_mono {st : List am_V} {f g : Nat → Int → List am_V → Prop} (h : ∀ x y r, f x y r → g x y r) : am_lr st f → am_lr st g := by
  unfold am_lr; split
  · exact h _ _ _
  · exact id
theorem am_rr_mono {st : List am_V} {f g : Nat → Nat → List am_V → Prop} (h : ∀ x y r, f x y r → g x y r) : am_rr st f → am_rr st g := by
  unfold am_rr; split
  · exact h _ _ _
  · exact id
theorem am_cond_mono {b : Bool} {A B : Prop} (h : A → B) : cond b A False → cond b B False := by
  cases b
  · exact id
  · exact h
theorem am_v1_mono {st : List am_V} {f g : am_V → List am_V → Prop} (h : ∀ x r, f x r → g x r) : am_v1 st f → am_v1 st g := by
  unfold am_v1; split
  · exact am_cond_mono (h _ _)
  · exact id
theorem am_v2_mono {st : List am_V} {f g : am_V → am_V → List am_V → Prop} (h : ∀ x y r, f x y r → g x y r) : am_v2 st f → am_v2 st g := by
  unfold am_v2; split
  · exact am_cond_mono (h _ _ _)
  · exact id
theorem am_gi_mono {ls : List am_V} {i : Nat} {f g : Int → Prop} (h : ∀ x, f x → g x) : am_gi ls i f → am_gi ls i g := by
  unfold am_gi; split
  · exact h _
  · exact id
theorem am_gl_mono {ls : List am_V} {i : Nat} {f g : Int → Prop} (h : ∀ x, f x → g x) : am_gl ls i f → am_gl ls i g := by
  unfold am_gl; split
  · exact h _
  · exact id
theorem am_ga_mono {ls : List am_V} {i : Nat} {f g : Nat → Prop} (h : ∀ x, f x → g x) : am_ga ls i f → am_ga ls i g := by
  unfold am_ga; split
  · exact h _
  · exact id
theorem am_xi_mono {st : List am_V} {f g : Int → Prop} (h : ∀ x, f x → g x) : am_xi st f → am_xi st g := by
  unfold am_xi; split
  · exact h _
  · exact id
theorem am_xl_mono {st : List am_V} {f g : Int → Prop} (h : ∀ x, f x → g x) : am_xl st f → am_xl st g := by
  unfold am_xl; split
  · exact h _
  · exact id
theorem am_xr_mono {st : List am_V} {f g : Nat → Prop} (h : ∀ x, f x → g x) : am_xr st f → am_xr st g := by
  unfold am_xr; split
  · exact h _
  · exact id
theorem am_xn_mono {st : List am_V} {A B : Prop} (h : A → B) : am_xn st A → am_xn st B := by
  unfold am_xn; split
  · exact h
  · exact id
theorem am_br_mono {c : Jvm.ClassFile.Cond} {x y : Int} {A B A' B' : Prop} (ha : A → A') (hb : B → B') : am_br c x y A B → am_br c x y A' B' := by
  cases c <;> exact fun h => ⟨fun q => ha (h.1 q), fun q => hb (h.2 q)⟩
theorem am_sw_mono {x : Int} {k k' : Nat → Prop} (h : ∀ t, k t → k' t) {d : Nat} : ∀ l : List (Int × Nat), am_sw x k d l → am_sw x k' d l := by
  intro l
  induction l with
  | nil => exact h d
  | cons q l ih =>
    obtain ⟨v, t⟩ := q
    exact fun z => ⟨fun e => h t (z.1 e), fun e => ih (z.2 e)⟩
theorem am_rt_mono {rc : Nat} {k k' : List am_V → am_S → Prop} (h : ∀ st σ, k st σ → k' st σ) {rest : List am_V} : ∀ v σ, am_rt rc k rest v σ → am_rt rc k' rest v σ := by
  intro v σ
  unfold am_rt
  split
  · exact fun z => ⟨z.1, h _ _ z.2⟩
  · exact fun ⟨x, z1, z2⟩ => ⟨x, z1, h _ _ z2⟩
  · exact fun ⟨x, z1, z2⟩ => ⟨x, z1, h _ _ z2⟩
  · exact fun ⟨x, z1, z2⟩ => ⟨x, z1, h _ _ z2⟩
theorem am_inv_mono {cl cl' : Nat → List am_V → am_S → am_Q → Prop} {k k' : List am_V → (Nat × Nat) → am_S → Prop} (hcl : ∀ r as σ (Q1 Q2 : am_Q), (∀ v σ, Q1 v σ → Q2 v σ) → cl r as σ Q1 → cl' r as σ Q2) (hk : ∀ st ct σ, k st ct σ → k' st ct σ) {r m : Nat} {st : List am_V} {ct : Nat × Nat} {σ : am_S} : am_inv cl k r m st ct σ → am_inv cl' k' r m st ct σ := by
  unfold am_inv
  exact am_cond_mono (hcl _ _ _ _ _ (am_rt_mono (fun st σ => hk st _ σ)))
theorem am_get_mono {t : Nat} {I : Nat → Nat → Int} {L : Nat → Nat → Int} {R : Nat → Nat → Option Nat} {a j : Nat} {k k' : am_V → Prop} (h : ∀ v, k v → k' v) : am_get t I L R a j k → am_get t I L R a j k' := by
  unfold am_get; split
  · exact am_nl_mono (fun _ => h _)
  · exact fun ⟨b, z1, z2⟩ => ⟨b, z1, h _ z2⟩
  · exact am_nm_mono (fun _ => h _)
theorem am_put_mono {t : Nat} {st : List am_V} {kd : Nat → Prop} {ki ki' : Nat → Int → List am_V → Prop} {kl kl' : Nat → Int → List am_V → Prop} {kr kr' : Nat → Nat → List am_V → Prop} (hi : ∀ a x r, ki a x r → ki' a x r) (hl : ∀ a x r, kl a x r → kl' a x r) (hr : ∀ a x r, kr a x r → kr' a x r) : am_put t st kd ki kl kr → am_put t st kd ki' kl' kr' := by
  unfold am_put; split
  · exact am_ir_mono (fun _ _ _ z => ⟨z.1, hi _ _ _ z.2⟩)
  · exact am_ir_mono (fun _ _ _ z => ⟨z.1, z.2.1, hi _ _ _ z.2.2⟩)
  · exact am_lr_mono (fun _ _ _ z => ⟨z.1, hl _ _ _ z.2⟩)
  · exact am_rr_mono (fun _ _ _ z => ⟨z.1, hr _ _ _ z.2⟩)
  · exact id
theorem am_ret_mono {rc : Nat} {x : Int} {A B : Prop} (h : A → B) : am_ret rc x A → am_ret rc x B := by
  unfold am_ret; split
  · exact h
  · exact fun z => ⟨z.1, h z.2⟩
  · exact fun z => ⟨z.1, h z.2⟩
  · exact fun z => ⟨z.1, h z.2⟩
  · exact id
set_option maxHeartbeats 4000000 in
theorem am_ins_mono {d d' : Nat} {k k' : am_C → Prop} {cl cl' : Nat → List am_V → am_S → am_Q → Prop} {Q Q' : am_Q} (hd : d ≤ d') (hk : ∀ c, k c → k' c) (hcl : ∀ r as σ (Q1 Q2 : am_Q), (∀ v σ, Q1 v σ → Q2 v σ) → cl r as σ Q1 → cl' r as σ Q2) (hQ : ∀ v σ, Q v σ → Q' v σ)
    (i : Jvm.ClassFile.Instr) (m nx : Nat) (ls st : List am_V) (ct : Nat × Nat) (n : Nat) (K : Nat → am_K) (I : Nat → Nat → Int) (L : Nat → Nat → Int) (R : Nat → Nat → Option Nat) (h : am_ins d k cl Q i m nx ls st ct n K I L R) : am_ins d' k' cl' Q' i m nx ls st ct n K I L R := by
  cases i with
  | iconst v => exact hk _ h
  | bipush v => exact hk _ h
  | sipush v => exact hk _ h
  | lconst v => exact hk _ h
  | jsr v => exact hk _ h
  | jsr_w v => exact hk _ h
  | goto_w v => exact hk _ h
  | ldc v => exact hk _ h
  | getstatic v => exact hk _ h
  | goto v => exact hk _ h
  | iload v => exact am_gi_mono (fun _ z => hk _ z) h
  | iload_n v => exact am_gi_mono (fun _ z => hk _ z) h
  | lload v => exact am_gl_mono (fun _ z => hk _ z) h
  | lload_n v => exact am_gl_mono (fun _ z => hk _ z) h
  | aload v => exact am_ga_mono (fun _ z => hk _ z) h
  | aload_n v => exact am_ga_mono (fun _ z => hk _ z) h
  | istore v => exact am_i1_mono (fun _ _ z => hk _ z) h
  | istore_n v => exact am_i1_mono (fun _ _ z => hk _ z) h
  | lstore v => exact am_l1_mono (fun _ _ z => hk _ z) h
  | lstore_n v => exact am_l1_mono (fun _ _ z => hk _ z) h
  | astore v => exact am_r1_mono (fun _ _ z => hk _ z) h
  | astore_n v => exact am_r1_mono (fun _ _ z => hk _ z) h
  | iinc v w => exact am_gi_mono (fun _ => am_ar_mono (fun _ => hk _)) h
  | iadd => exact am_i2_mono (fun _ _ _ => am_ar_mono (fun _ => hk _)) h
  | isub => exact am_i2_mono (fun _ _ _ => am_ar_mono (fun _ => hk _)) h
  | imul => exact am_i2_mono (fun _ _ _ => am_ar_mono (fun _ => hk _)) h
  | iand => exact am_i2_mono (fun _ _ _ => am_nm_mono (fun _ => hk _)) h
  | ior => exact am_i2_mono (fun _ _ _ => am_nm_mono (fun _ => hk _)) h
  | ixor => exact am_i2_mono (fun _ _ _ => am_nm_mono (fun _ => hk _)) h
  | idiv => exact am_i2_mono (fun _ _ _ z => ⟨z.1, am_nm_mono (fun _ => hk _) z.2⟩) h
  | irem => exact am_i2_mono (fun _ _ _ z => ⟨z.1, am_nm_mono (fun _ => hk _) z.2⟩) h
  | ishl => exact am_i2_mono (fun _ _ _ => am_nm_mono (fun _ => hk _)) h
  | ishr => exact am_i2_mono (fun _ _ _ => am_nm_mono (fun _ => hk _)) h
  | iushr => exact am_i2_mono (fun _ _ _ => am_nm_mono (fun _ => hk _)) h
  | ineg => exact am_i1_mono (fun _ _ => am_ar_mono (fun _ => hk _)) h
  | i2l => exact am_i1_mono (fun _ _ z => hk _ z) h
  | i2c => exact am_i1_mono (fun _ _ => am_nm_mono (fun _ => hk _)) h
  | i2b => exact am_i1_mono (fun _ _ => am_nm_mono (fun _ => hk _)) h
  | l2i => exact am_l1_mono (fun _ _ => am_nm_mono (fun _ => hk _)) h
  | ladd => exact am_l2_mono (fun _ _ _ => am_al_mono (fun _ => hk _)) h
  | lsub => exact am_l2_mono (fun _ _ _ => am_al_mono (fun _ => hk _)) h
  | lmul => exact am_l2_mono (fun _ _ _ => am_al_mono (fun _ => hk _)) h
  | land => exact am_l2_mono (fun _ _ _ => am_nl_mono (fun _ => hk _)) h
  | lor => exact am_l2_mono (fun _ _ _ => am_nl_mono (fun _ => hk _)) h
  | lxor => exact am_l2_mono (fun _ _ _ => am_nl_mono (fun _ => hk _)) h
  | lcmp => exact am_l2_mono (fun _ _ _ => am_nm_mono (fun _ => hk _)) h
  | lshl => exact am_li_mono (fun _ _ _ => am_nl_mono (fun _ => hk _)) h
  | lshr => exact am_li_mono (fun _ _ _ => am_nl_mono (fun _ => hk _)) h
  | lushr => exact am_li_mono (fun _ _ _ => am_nl_mono (fun _ => hk _)) h
  | dup => exact am_v1_mono (fun _ _ z => hk _ z) h
  | pop => exact am_v1_mono (fun _ _ z => hk _ z) h
  | dup_x1 => exact am_v2_mono (fun _ _ _ z => hk _ z) h
  | dup2 => exact am_v2_mono (fun _ _ _ z => hk _ z) h
  | ifCond c t => exact am_i1_mono (fun _ _ z => am_br_mono (hk _) (hk _) z) h
  | if_icmp c t => exact am_i2_mono (fun _ _ _ z => am_br_mono (hk _) (hk _) z) h
  | tableswitch a b c e => exact am_i1_mono (fun _ _ z => am_sw_mono (fun _ => hk _) _ z) h
  | lookupswitch a b => exact am_i1_mono (fun _ _ z => am_sw_mono (fun _ => hk _) _ z) h
  | getfield q => exact am_r1_mono (fun _ _ z => ⟨z.1, am_get_mono (fun _ => hk _) z.2⟩) h
  | putfield q => exact am_put_mono (fun _ _ _ => hk _) (fun _ _ _ => hk _) (fun _ _ _ => hk _) h
  | iaload => exact am_ai_mono (fun _ _ _ ⟨len, z1, z2, z3⟩ => ⟨len, z1, z2, am_nm_mono (fun _ => hk _) z3⟩) h
  | baload => exact am_ai_mono (fun _ _ _ ⟨len, z1, z2, z3⟩ => ⟨len, z1, z2, am_nm_mono (fun _ => hk _) z3⟩) h
  | laload => exact am_ai_mono (fun _ _ _ ⟨len, z0, z1, z2, z3⟩ => ⟨len, z0, z1, z2, am_nl_mono (fun _ => hk _) z3⟩) h
  | iastore => exact am_aii_mono (fun _ _ _ _ ⟨len, z0, z1, z2, z3⟩ => ⟨len, z0, z1, z2, hk _ z3⟩) h
  | bastore => exact am_aii_mono (fun _ _ _ _ ⟨len, z0, z1, z2, z3⟩ => ⟨len, z0, z1, z2, hk _ z3⟩) h
  | lastore => exact am_ail_mono (fun _ _ _ _ ⟨len, z0, z1, z2, z3⟩ => ⟨len, z0, z1, z2, hk _ z3⟩) h
  | arraylength => exact am_r1_mono (fun _ _ ⟨t, len, z1, z2, z4, z3⟩ => ⟨t, len, z1, z2, z4, hk _ z3⟩) h
  | new c => exact am_cond_mono (hk _) h
  | newarray t => exact am_i1_mono (fun _ _ z => ⟨z.1, z.2.1, hk _ z.2.2⟩) h
  | invokestatic r =>
    match r, h with
    | 0, h =>
      have h1 : am_inv cl (fun st' ct' σ' => k (m, nx, ls, st', ct', σ')) 0 m st ct (n, K, I, L, R) := h
      exact am_inv_mono (k' := fun st' ct' σ' => k' (m, nx, ls, st', ct', σ')) hcl (fun _ _ _ => hk _) h1
    | 1, h =>
      refine am_i2_mono (fun x y r z => ⟨z.1, ?_⟩) h
      have z2 := z.2
      cases hb : (Nat.ble 2 d && Nat.ble (am_words r) 8) with
      | false => rw [hb] at z2; exact z2.elim
      | true =>
        rw [hb] at z2
        have hb' : (Nat.ble 2 d' && Nat.ble (am_words r) 8) = true := by
          rw [Bool.and_eq_true] at hb ⊢
          exact ⟨Nat.ble_eq.mpr (Nat.le_trans (Nat.ble_eq.mp hb.1) hd), hb.2⟩
        rw [hb']
        exact hk _ z2
    | 2, h =>
      refine am_i2_mono (fun x y r z => ?_) h
      cases hb : (Nat.ble 1 d && Nat.ble (am_words r) 8) with
      | false => rw [hb] at z; exact z.elim
      | true =>
        rw [hb] at z
        have hb' : (Nat.ble 1 d' && Nat.ble (am_words r) 8) = true := by
          rw [Bool.and_eq_true] at hb ⊢
          exact ⟨Nat.ble_eq.mpr (Nat.le_trans (Nat.ble_eq.mp hb.1) hd), hb.2⟩
        rw [hb']
        exact am_nm_mono (fun _ => hk _) z
    | 3, h =>
      refine am_i2_mono (fun x y r z => ?_) h
      cases hb : (Nat.ble 1 d && Nat.ble (am_words r) 8) with
      | false => rw [hb] at z; exact z.elim
      | true =>
        rw [hb] at z
        have hb' : (Nat.ble 1 d' && Nat.ble (am_words r) 8) = true := by
          rw [Bool.and_eq_true] at hb ⊢
          exact ⟨Nat.ble_eq.mpr (Nat.le_trans (Nat.ble_eq.mp hb.1) hd), hb.2⟩
        rw [hb']
        exact am_nm_mono (fun _ => hk _) z
    | r + 4, h =>
      have h1 : am_inv cl (fun st' ct' σ' => k (m, nx, ls, st', ct', σ')) (r + 4) m st ct (n, K, I, L, R) := h
      exact am_inv_mono (k' := fun st' ct' σ' => k' (m, nx, ls, st', ct', σ')) hcl (fun _ _ _ => hk _) h1
  | invokespecial r =>
    cases r with
    | zero =>
      refine am_r1_mono (fun a r z => ?_) h
      cases hb : (Nat.ble 1 d && Nat.ble (am_words r) 8) with
      | false => rw [hb] at z; exact z.elim
      | true =>
        rw [hb] at z
        have hb' : (Nat.ble 1 d' && Nat.ble (am_words r) 8) = true := by
          rw [Bool.and_eq_true] at hb ⊢
          exact ⟨Nat.ble_eq.mpr (Nat.le_trans (Nat.ble_eq.mp hb.1) hd), hb.2⟩
        rw [hb']
        exact hk _ z
    | succ r => exact am_r1_mono (fun _ _ z => am_inv_mono hcl (fun _ _ _ => hk _) z) h
  | invokevirtual r => exact am_r1_mono (fun _ _ z => ⟨z.1, am_inv_mono hcl (fun _ _ _ => hk _) z.2⟩) h
  | ireturn => exact am_xi_mono (fun _ z => am_ret_mono (hQ _ _) z) h
  | lreturn => exact am_xl_mono (fun _ z => am_cond_mono (hQ _ _) z) h
  | areturn => exact am_xr_mono (fun _ z => am_cond_mono (hQ _ _) z) h
  | return_ => exact am_xn_mono (fun z => am_cond_mono (hQ _ _) z) h
  | _ => exact h.elim
theorem am_step_mono {d d' : Nat} {k k' : am_C → Prop} {cl cl' : Nat → List am_V → am_S → am_Q → Prop} {Q Q' : am_Q} (hd : d ≤ d') (hk : ∀ c, k c → k' c) (hcl : ∀ r as σ (Q1 Q2 : am_Q), (∀ v σ, Q1 v σ → Q2 v σ) → cl r as σ Q1 → cl' r as σ Q2) (hQ : ∀ v σ, Q v σ → Q' v σ) (c : am_C) (h : am_step d k cl Q c) : am_step d' k' cl' Q' c := by
  obtain ⟨m, pc, ls, st, ct, n, K, I, L, R⟩ := c
  unfold am_step at h ⊢
  dsimp only at h ⊢
  cases hc : am_code m pc with
  | none => rw [hc] at h; exact h.elim
  | some q =>
    obtain ⟨i, nx, ix⟩ := q
    rw [hc] at h
    exact am_ins_mono hd hk hcl hQ _ _ _ _ _ _ _ _ _ _ _ h
theorem am_WP.mono {d : Nat} {c : am_C} {Q Q' : am_Q} (hQ : ∀ v σ, Q v σ → Q' v σ) (h : am_WP d c Q) : am_WP d c Q' := by
  intro X hX
  refine h (fun d c Q => ∀ Q2 : am_Q, (∀ v σ, Q v σ → Q2 v σ) → X d c Q2) ?_ Q' hQ
  intro d c Q hs Q2 h2
  refine hX d c Q2 (am_step_mono (Nat.le_refl _) (fun c' z => z Q2 h2) ?_ h2 c hs)
  intro r as σ Q1 Q3 h13 z
  cases d with
  | zero => exact z.elim
  | succ e => exact z Q3 h13
theorem am_cl_mono {d : Nat} {r : Nat} {as : List am_V} {σ : am_S} {Q1 Q2 : am_Q} (h : ∀ v σ, Q1 v σ → Q2 v σ) (z : am_cl am_WP d r as σ Q1) : am_cl am_WP d r as σ Q2 := by
  cases d with
  | zero => exact z.elim
  | succ e => exact am_WP.mono h z
theorem am_WP.step {d : Nat} {c : am_C} {Q : am_Q} (h : am_step d (fun c' => am_WP d c' Q) (am_cl am_WP d) Q c) : am_WP d c Q := by
  intro X hX
  refine hX d c Q (am_step_mono (Nat.le_refl _) (fun c' z => z X hX) ?_ (fun _ _ z => z) c h)
  intro r as σ Q1 Q2 h12 z
  cases d with
  | zero => exact z.elim
  | succ e => exact am_WP.mono h12 z X hX
/-- a stretch of instructions up to the next cut -/
def am_in (x : Nat) : List Nat → Bool
  | [] => false
  | y :: r => cond (Nat.beq x y) true (am_in x r)
def am_blk (cs : List Nat) (d : Nat) (k : am_C → Prop) (cl : Nat → List am_V → am_S → am_Q → Prop) (Q : am_Q) : Nat → am_C → Prop
  | 0, c => k c
  | s + 1, c => cond (am_in c.2.1 cs) (k c) (am_step d (am_blk cs d k cl Q s) cl Q c)
theorem am_blk_WP {cs : List Nat} {d : Nat} {Q : am_Q} : ∀ (s : Nat) (c : am_C), am_blk cs d (fun c' => am_WP d c' Q) (am_cl am_WP d) Q s c → am_WP d c Q := by
  intro s
  induction s with
  | zero => exact fun c h => h
  | succ s ih =>
    intro c h
    unfold am_blk at h
    cases hc : am_in c.2.1 cs with
    | true => rw [hc] at h; exact h
    | false =>
      rw [hc] at h
      exact am_WP.step (am_step_mono (d := d) (cl := am_cl am_WP d) (cl' := am_cl am_WP d) (Nat.le_refl _) ih (fun _ _ _ _ _ h12 z => am_cl_mono h12 z) (fun _ _ z => z) c h)
theorem am_WP.blk (cs : List Nat) (s : Nat) {d : Nat} {c : am_C} {Q : am_Q} (h : am_step d (am_blk cs d (fun c' => am_WP d c' Q) (am_cl am_WP d) Q s) (am_cl am_WP d) Q c) : am_WP d c Q :=
  am_WP.step (am_step_mono (d := d) (cl := am_cl am_WP d) (cl' := am_cl am_WP d) (Nat.le_refl _) (am_blk_WP s) (fun _ _ _ _ _ h12 z => am_cl_mono h12 z) (fun _ _ z => z) c h)
/-- more frames do no harm -/
theorem am_WP.deep {d : Nat} {c : am_C} {Q : am_Q} (h : am_WP d c Q) : ∀ e, d ≤ e → am_WP e c Q := by
  refine h (fun d c Q => ∀ e, d ≤ e → am_WP e c Q) ?_
  intro d c Q hs e he
  refine am_WP.step (am_step_mono he (fun c' z => z e he) ?_ (fun _ _ z => z) c hs)
  intro r as σ Q1 Q2 h12 z
  cases d with
  | zero => exact z.elim
  | succ d =>
    cases e with
    | zero => omega
    | succ e => exact am_WP.mono h12 (z e (by omega))
