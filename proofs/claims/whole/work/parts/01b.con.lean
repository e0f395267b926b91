def am_nsts : List (String × Nat × MethodName × String) := [("PatternTrees", 11, ⟨"PatternTrees$Form", "<init>", "()V"⟩, "PatternTrees"), ("PatternTrees", 18, ⟨"PatternTrees$Terms", "<init>", "()V"⟩, "PatternTrees"), ("PatternTrees", 25, ⟨"PatternTrees$Trial", "<init>", "()V"⟩, "PatternTrees"), ("PatternTrees", 32, ⟨"PatternTrees$Search", "<init>", "()V"⟩, "PatternTrees"), ("PatternTrees", 39, ⟨"PatternTrees$Rules", "<init>", "()V"⟩, "PatternTrees"), ("PatternTrees$Form", 11, ⟨"PatternTrees$Tokens", "<init>", "()V"⟩, "PatternTrees"), ("PatternTrees$Rules", 11, ⟨"PatternTrees$Types", "<init>", "()V"⟩, "PatternTrees"), ("PatternTrees$Rules", 20, ⟨"PatternTrees$Terms", "<init>", "()V"⟩, "PatternTrees"), ("PatternTrees$Search", 11, ⟨"PatternTrees$Line", "<init>", "()V"⟩, "PatternTrees"), ("PatternTrees$Search", 20, ⟨"PatternTrees$Asks", "<init>", "()V"⟩, "PatternTrees")]
theorem am_fty_const {ci k : Nat} (h : k < am_cN ci) : am_fty ci k ≠ 2 := by
  unfold am_cN at h
  cases e : Nat.beq ci 11 with
  | false => rw [e] at h; exact absurd h (Nat.not_lt_zero k)
  | true =>
    have e1 := Nat.eq_of_beq_eq_true e
    subst e1
    rw [e] at h
    have h2 : k < 2 := h
    match k, h2 with
    | 0, _ => decide
    | 1, _ => decide
    | k + 2, h2 => omega
