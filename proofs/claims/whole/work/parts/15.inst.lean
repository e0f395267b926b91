section AME
theorem am_i1_e {st : List am_V} {f : Int → List am_V → Prop} (h : am_i1 st f) : ∃ x r, st = .inl x :: r ∧ f x r := by
  unfold am_i1 at h; split at h
  · exact ⟨_, _, rfl, h⟩
  · exact h.elim
theorem am_i2_e {st : List am_V} {f : Int → Int → List am_V → Prop} (h : am_i2 st f) : ∃ x y r, st = .inl y :: .inl x :: r ∧ f x y r := by
  unfold am_i2 at h; split at h
  · exact ⟨_, _, _, rfl, h⟩
  · exact h.elim
theorem am_l1_e {st : List am_V} {f : Int → List am_V → Prop} (h : am_l1 st f) : ∃ x r, st = .inr (.inr (some x)) :: r ∧ f x r := by
  unfold am_l1 at h; split at h
  · exact ⟨_, _, rfl, h⟩
  · exact h.elim
theorem am_l2_e {st : List am_V} {f : Int → Int → List am_V → Prop} (h : am_l2 st f) : ∃ x y r, st = .inr (.inr (some y)) :: .inr (.inr (some x)) :: r ∧ f x y r := by
  unfold am_l2 at h; split at h
  · exact ⟨_, _, _, rfl, h⟩
  · exact h.elim
theorem am_li_e {st : List am_V} {f : Int → Int → List am_V → Prop} (h : am_li st f) : ∃ x y r, st = .inl y :: .inr (.inr (some x)) :: r ∧ f x y r := by
  unfold am_li at h; split at h
  · exact ⟨_, _, _, rfl, h⟩
  · exact h.elim
theorem am_r1_e {st : List am_V} {f : Nat → List am_V → Prop} (h : am_r1 st f) : ∃ x r, st = .inr (.inl x) :: r ∧ f x r := by
  unfold am_r1 at h; split at h
  · exact ⟨_, _, rfl, h⟩
  · exact h.elim
theorem am_ai_e {st : List am_V} {f : Nat → Int → List am_V → Prop} (h : am_ai st f) : ∃ a j r, st = .inl j :: .inr (.inl a) :: r ∧ f a j r := by
  unfold am_ai at h; split at h
  · exact ⟨_, _, _, rfl, h⟩
  · exact h.elim
theorem am_aii_e {st : List am_V} {f : Nat → Int → Int → List am_V → Prop} (h : am_aii st f) : ∃ a j x r, st = .inl x :: .inl j :: .inr (.inl a) :: r ∧ f a j x r := by
  unfold am_aii at h; split at h
  · exact ⟨_, _, _, _, rfl, h⟩
  · exact h.elim
theorem am_ail_e {st : List am_V} {f : Nat → Int → Int → List am_V → Prop} (h : am_ail st f) : ∃ a j x r, st = .inr (.inr (some x)) :: .inl j :: .inr (.inl a) :: r ∧ f a j x r := by
  unfold am_ail at h; split at h
  · exact ⟨_, _, _, _, rfl, h⟩
  · exact h.elim
theorem am_ir_e {st : List am_V} {f : Nat → Int → List am_V → Prop} (h : am_ir st f) : ∃ a x r, st = .inl x :: .inr (.inl a) :: r ∧ f a x r := by
  unfold am_ir at h; split at h
  · exact ⟨_, _, _, rfl, h⟩
  · exact h.elim
theorem am_lr_e {st : List am_V} {f : Nat → Int → List am_V → Prop} (h : am_lr st f) : ∃ a x r, st = .inr (.inr (some x)) :: .inr (.inl a) :: r ∧ f a x r := by
  unfold am_lr at h; split at h
  · exact ⟨_, _, _, rfl, h⟩
  · exact h.elim
theorem am_rr_e {st : List am_V} {f : Nat → Nat → List am_V → Prop} (h : am_rr st f) : ∃ a b r, st = .inr (.inl b) :: .inr (.inl a) :: r ∧ f a b r := by
  unfold am_rr at h; split at h
  · exact ⟨_, _, _, rfl, h⟩
  · exact h.elim
theorem am_cond_e {b : Bool} {A : Prop} (h : cond b A False) : b = true ∧ A := by
  cases b
  · exact h.elim
  · exact ⟨rfl, h⟩
theorem am_v1_e {st : List am_V} {f : am_V → List am_V → Prop} (h : am_v1 st f) : ∃ v r, st = v :: r ∧ am_cat v = 1 ∧ f v r := by
  unfold am_v1 at h; split at h
  · obtain ⟨h1, h2⟩ := am_cond_e h
    exact ⟨_, _, rfl, Nat.eq_of_beq_eq_true h1, h2⟩
  · exact h.elim
theorem am_v2_e {st : List am_V} {f : am_V → am_V → List am_V → Prop} (h : am_v2 st f) : ∃ v w r, st = v :: w :: r ∧ am_cat v = 1 ∧ am_cat w = 1 ∧ f v w r := by
  unfold am_v2 at h; split at h
  · obtain ⟨h1, h2⟩ := am_cond_e h
    rw [Bool.and_eq_true] at h1
    exact ⟨_, _, _, rfl, Nat.eq_of_beq_eq_true h1.1, Nat.eq_of_beq_eq_true h1.2, h2⟩
  · exact h.elim
theorem am_gi_e {ls : List am_V} {i : Nat} {f : Int → Prop} (h : am_gi ls i f) : ∃ x, ls[i]? = some (.inl x) ∧ f x := by
  unfold am_gi at h; split at h
  · rename_i x e; exact ⟨x, e, h⟩
  · exact h.elim
theorem am_gl_e {ls : List am_V} {i : Nat} {f : Int → Prop} (h : am_gl ls i f) : ∃ x, ls[i]? = some (.inr (.inr (some x))) ∧ f x := by
  unfold am_gl at h; split at h
  · rename_i x e; exact ⟨x, e, h⟩
  · exact h.elim
theorem am_ga_e {ls : List am_V} {i : Nat} {f : Nat → Prop} (h : am_ga ls i f) : ∃ x, ls[i]? = some (.inr (.inl x)) ∧ f x := by
  unfold am_ga at h; split at h
  · rename_i x e; exact ⟨x, e, h⟩
  · exact h.elim
theorem am_xi_e {st : List am_V} {f : Int → Prop} (h : am_xi st f) : ∃ x, st = [.inl x] ∧ f x := by
  unfold am_xi at h; split at h
  · exact ⟨_, rfl, h⟩
  · exact h.elim
theorem am_xl_e {st : List am_V} {f : Int → Prop} (h : am_xl st f) : ∃ x, st = [.inr (.inr (some x))] ∧ f x := by
  unfold am_xl at h; split at h
  · exact ⟨_, rfl, h⟩
  · exact h.elim
theorem am_xr_e {st : List am_V} {f : Nat → Prop} (h : am_xr st f) : ∃ x, st = [.inr (.inl x)] ∧ f x := by
  unfold am_xr at h; split at h
  · exact ⟨_, rfl, h⟩
  · exact h.elim
theorem am_xn_e {st : List am_V} {A : Prop} (h : am_xn st A) : st = [] ∧ A := by
  unfold am_xn at h; split at h
  · exact ⟨rfl, h⟩
  · exact h.elim
theorem am_ret_e {rc : Nat} {x : Int} {A : Prop} (h : am_ret rc x A) : am_ret rc x True ∧ A := by
  unfold am_ret at h ⊢
  split at h <;> first | exact ⟨trivial, h⟩ | exact ⟨⟨h.1, trivial⟩, h.2⟩ | exact h.elim
end AME
