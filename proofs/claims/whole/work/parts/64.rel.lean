/-! TOKENS OF CLASS AND REFERENCE -/
def wl_6 : List Int → Int
  | [] => 0
  | x :: l => wl_6 l * 256 + x
def wl_2 : List Int → Int
  | [] => 0
  | x :: l => 32 * wl_2 l + x % 32
def wl_ok (l : List Int) : Prop := (∀ x ∈ l, tb_small x) ∧ 2 ≤ l.length ∧ l.length ≤ 8
/-- a word: what the reference keeps of it, what the class keeps of it -/
def tk_w (w nm : Int) : Prop := ∃ l : List Int, wl_ok l ∧ w = wl_6 l ∧ nm = wl_2 l
theorem wl_pos : ∀ l : List Int, (∀ x ∈ l, tb_small x) → 0 ≤ wl_6 l ∧ 0 ≤ wl_2 l ∧ (l ≠ [] → 0 < wl_6 l ∧ 0 < wl_2 l) := by
  intro l
  induction l with
  | nil => intro _; exact ⟨Int.le_refl _, Int.le_refl _, fun h => absurd rfl h⟩
  | cons x l ih =>
    intro h
    have h1 := ih (fun y hy => h y (List.mem_cons_of_mem _ hy))
    have h2 := h x List.mem_cons_self
    unfold tb_small at h2
    unfold wl_6 wl_2
    omega
theorem wl_inj6 : ∀ l l' : List Int, (∀ x ∈ l, tb_small x) → (∀ x ∈ l', tb_small x) → wl_6 l = wl_6 l' → l = l' := by
  intro l
  induction l with
  | nil =>
    intro l' _ h' e
    cases l' with
    | nil => rfl
    | cons y l' => have := ((wl_pos _ h').2.2 (by simp)).1; rw [← e] at this; exact absurd this (by decide)
  | cons x l ih =>
    intro l' h h' e
    cases l' with
    | nil => have := ((wl_pos _ h).2.2 (by simp)).1; rw [e] at this; exact absurd this (by decide)
    | cons y l' =>
      have hx := h x List.mem_cons_self
      have hy := h' y List.mem_cons_self
      unfold tb_small at hx hy
      have e2 : wl_6 l * 256 + x = wl_6 l' * 256 + y := e
      have ex : x = y := by omega
      have el : wl_6 l = wl_6 l' := by omega
      rw [ex, ih l' (fun z hz => h z (List.mem_cons_of_mem _ hz)) (fun z hz => h' z (List.mem_cons_of_mem _ hz)) el]
theorem wl_inj2 : ∀ l l' : List Int, (∀ x ∈ l, tb_small x) → (∀ x ∈ l', tb_small x) → wl_2 l = wl_2 l' → l = l' := by
  intro l
  induction l with
  | nil =>
    intro l' _ h' e
    cases l' with
    | nil => rfl
    | cons y l' => have := ((wl_pos _ h').2.2 (by simp)).2; rw [← e] at this; exact absurd this (by decide)
  | cons x l ih =>
    intro l' h h' e
    cases l' with
    | nil => have := ((wl_pos _ h).2.2 (by simp)).2; rw [e] at this; exact absurd this (by decide)
    | cons y l' =>
      have hx := h x List.mem_cons_self
      have hy := h' y List.mem_cons_self
      unfold tb_small at hx hy
      have e2 : 32 * wl_2 l + x % 32 = 32 * wl_2 l' + y % 32 := e
      have ex : x = y := by omega
      have el : wl_2 l = wl_2 l' := by omega
      rw [ex, ih l' (fun z hz => h z (List.mem_cons_of_mem _ hz)) (fun z hz => h' z (List.mem_cons_of_mem _ hz)) el]
theorem tk_w_iff {w nm w' nm' : Int} (h : tk_w w nm) (h' : tk_w w' nm') : nm = nm' ↔ w = w' := by
  obtain ⟨l, hl, rfl, rfl⟩ := h
  obtain ⟨l', hl', rfl, rfl⟩ := h'
  constructor
  · intro e; rw [wl_inj2 l l' hl.1 hl'.1 e]
  · intro e; rw [wl_inj6 l l' hl.1 hl'.1 e]
def tb_ls (b : Nat → Int) (p : Nat) : Nat → List Int
  | 0 => []
  | k + 1 => b (p + k) :: tb_ls b p k
theorem tb_ls_w (b : Nat → Int) (p : Nat) : ∀ k : Nat, tb_wv b p k = wl_6 (tb_ls b p k) ∧ tb_nv b p k = wl_2 (tb_ls b p k) ∧ (tb_ls b p k).length = k := by
  intro k
  induction k with
  | zero => exact ⟨rfl, rfl, rfl⟩
  | succ k ih =>
    refine ⟨?_, ?_, ?_⟩
    · show tb_wv b p k * 256 + b (p + k) = wl_6 (tb_ls b p k) * 256 + b (p + k); rw [ih.1]
    · show 32 * tb_nv b p k + b (p + k) % 32 = 32 * wl_2 (tb_ls b p k) + b (p + k) % 32; rw [ih.2.1]
    · show (tb_ls b p k).length + 1 = k + 1; rw [ih.2.2]
theorem tb_ls_mem (b : Nat → Int) (p : Nat) : ∀ k : Nat, ∀ x ∈ tb_ls b p k, ∃ j : Nat, j < k ∧ x = b (p + j) := by
  intro k
  induction k with
  | zero => intro x hx; exact absurd hx (by simp [tb_ls])
  | succ k ih =>
    intro x hx
    rcases List.mem_cons.mp hx with e | e
    · exact ⟨k, by omega, e⟩
    · obtain ⟨j, hj, ej⟩ := ih x e
      exact ⟨j, by omega, ej⟩
/-- the kinds: class, reference -/
def tk_rel (k num nm s w : Int) : Prop :=
  k = 0 ∧ s = 0 ∨ k = 1 ∧ s = 1 ∨ k = 2 ∧ s = 2 ∧ w = num ∧ 0 ≤ num ∧ num ≤ 25 ∨ k = 3 ∧ s = 3 ∧ tk_w w nm ∧ w ≠ 1684108385 ∧ w ≠ 7234935 ∧ w ≠ 469786452840 ∧ w ≠ 2003330414 ∨ k = 4 ∧ s = 4 ∨ k = 5 ∧ s = 5 ∧ w = num ∧ 0 ≤ num ∧ num ≤ 999 ∨ k = 6 ∧ s = 3 ∧ w = 1684108385 ∨ k = 7 ∧ s = 3 ∧ w = 7234935 ∨ k = 8 ∧ s = 3 ∧ w = 469786452840 ∨ k = 9 ∧ s = 3 ∧ w = 2003330414 ∨ tb_sg k ∧ s = 6 ∧ w = k
theorem tr_0 {num nm w : Int} : tk_rel 0 num nm 0 w := Or.inl ⟨rfl, rfl⟩
theorem tr_1 {num nm w : Int} : tk_rel 1 num nm 1 w := Or.inr (Or.inl ⟨rfl, rfl⟩)
theorem tr_2 {num nm w : Int} (e : w = num) (h0 : 0 ≤ num) (h1 : num ≤ 25) : tk_rel 2 num nm 2 w := Or.inr (Or.inr (Or.inl ⟨rfl, rfl, e, h0, h1⟩))
theorem tr_3 {num nm w : Int} (h : tk_w w nm) (h1 : w ≠ 1684108385) (h2 : w ≠ 7234935) (h3 : w ≠ 469786452840) (h4 : w ≠ 2003330414) : tk_rel 3 num nm 3 w := Or.inr (Or.inr (Or.inr (Or.inl ⟨rfl, rfl, h, h1, h2, h3, h4⟩)))
theorem tr_4 {num nm w : Int} : tk_rel 4 num nm 4 w := Or.inr (Or.inr (Or.inr (Or.inr (Or.inl ⟨rfl, rfl⟩))))
theorem tr_5 {num nm w : Int} (e : w = num) (h0 : 0 ≤ num) (h1 : num ≤ 999) : tk_rel 5 num nm 5 w := Or.inr (Or.inr (Or.inr (Or.inr (Or.inr (Or.inl ⟨rfl, rfl, e, h0, h1⟩)))))
theorem tr_6 {num nm : Int} : tk_rel 6 num nm 3 1684108385 := Or.inr (Or.inr (Or.inr (Or.inr (Or.inr (Or.inr (Or.inl ⟨rfl, rfl, rfl⟩))))))
theorem tr_7 {num nm : Int} : tk_rel 7 num nm 3 7234935 := Or.inr (Or.inr (Or.inr (Or.inr (Or.inr (Or.inr (Or.inr (Or.inl ⟨rfl, rfl, rfl⟩)))))))
theorem tr_8 {num nm : Int} : tk_rel 8 num nm 3 469786452840 := Or.inr (Or.inr (Or.inr (Or.inr (Or.inr (Or.inr (Or.inr (Or.inr (Or.inl ⟨rfl, rfl, rfl⟩))))))))
theorem tr_9 {num nm : Int} : tk_rel 9 num nm 3 2003330414 := Or.inr (Or.inr (Or.inr (Or.inr (Or.inr (Or.inr (Or.inr (Or.inr (Or.inr (Or.inl ⟨rfl, rfl, rfl⟩)))))))))
theorem tr_s {num nm k : Int} (h : tb_sg k) : tk_rel k num nm 6 k := Or.inr (Or.inr (Or.inr (Or.inr (Or.inr (Or.inr (Or.inr (Or.inr (Or.inr (Or.inr ⟨h, rfl, rfl⟩)))))))))
theorem tb_ls_eq {b f : Nat → Int} {p : Nat} : ∀ k : Nat, tb_ls b p k = tb_ls f 0 k ↔ ∀ j : Nat, j < k → b (p + j) = f j := by
  intro k
  induction k with
  | zero => exact ⟨fun _ j hj => absurd hj (Nat.not_lt_zero j), fun _ => rfl⟩
  | succ k ih =>
    show b (p + k) :: tb_ls b p k = f (0 + k) :: tb_ls f 0 k ↔ _
    rw [Nat.zero_add, List.cons.injEq, ih]
    constructor
    · rintro ⟨h1, h2⟩ j hj
      by_cases e : j = k
      · rw [e]; exact h1
      · exact h2 j (by omega)
    · intro h
      exact ⟨h k (by omega), fun j hj => h j (by omega)⟩
section REL
variable {I0 : Nat → Nat → Int} {xs : Nat → Int}
theorem tk_spl {a m p n : Nat} {f : Nat → Int} (hf : ∀ j : Nat, j < m → I0 (a + 1) j = f j) : tb_sp I0 a m p n ↔ tb_ls (I0 14) p n = tb_ls f 0 m := by
  unfold tb_sp
  constructor
  · rintro ⟨e, h⟩
    subst e
    exact (tb_ls_eq m).mpr (fun j hj => (h j hj).trans (hf j hj))
  · intro h
    have e : n = m := by
      have := congrArg List.length h
      rw [(tb_ls_w (I0 14) p n).2.2, (tb_ls_w f 0 m).2.2] at this
      exact this
    subst e
    exact ⟨rfl, fun j hj => ((tb_ls_eq n).mp h j hj).trans (hf j hj).symm⟩
theorem tk_let {len p q : Nat} {k nm s w : Int} (hC : ∀ a j : Nat, a < 11 → I0 a j = am_Zi xs a j) (hpq : p < q) (hlet : tb_let (I0 14 p)) (hr : tb_run tb_let (I0 14) len p q) (hn : q - p ≤ 8 → nm = tb_nv (I0 14) p (q - p)) (hk : tb_kind I0 p (q - p) (tk_sm I0 p q) k)
    (hm : q - p = 1 ∧ tb_great (I0 14 p) ∧ s = 2 ∧ w = I0 14 p - 65 ∨ q - p = 1 ∧ ¬ tb_great (I0 14 p) ∧ s = 4 ∧ w = I0 14 p ∨ q - p ≠ 1 ∧ ((∀ j : Nat, p ≤ j → j < q → tb_small (I0 14 j)) ∧ q - p ≤ 8) ∧ s = 3 ∧ w = tb_wv (I0 14) p (q - p) ∨ q - p ≠ 1 ∧ ¬ ((∀ j : Nat, p ≤ j → j < q → tb_small (I0 14 j)) ∧ q - p ≤ 8) ∧ s = 1) : tk_rel k (I0 14 p - 65) nm s w := by
  have c4 : ∀ j : Nat, j < 4 → I0 (3 + 1) j = [100, 97, 116, 97].getD j (0 : Int) := by
    intro j hj
    have : j = 0 ∨ j = 1 ∨ j = 2 ∨ j = 3 := by omega
    rcases this with e | e | e | e <;> subst e <;> exact (hC 4 _ (by decide)).trans rfl
  have c6 : ∀ j : Nat, j < 3 → I0 (5 + 1) j = [110, 101, 119].getD j (0 : Int) := by
    intro j hj
    have : j = 0 ∨ j = 1 ∨ j = 2 := by omega
    rcases this with e | e | e <;> subst e <;> exact (hC 6 _ (by decide)).trans rfl
  have c8 : ∀ j : Nat, j < 5 → I0 (7 + 1) j = [109, 97, 116, 99, 104].getD j (0 : Int) := by
    intro j hj
    have : j = 0 ∨ j = 1 ∨ j = 2 ∨ j = 3 ∨ j = 4 := by omega
    rcases this with e | e | e | e | e <;> subst e <;> exact (hC 8 _ (by decide)).trans rfl
  have c10 : ∀ j : Nat, j < 4 → I0 (9 + 1) j = [119, 104, 101, 110].getD j (0 : Int) := by
    intro j hj
    have : j = 0 ∨ j = 1 ∨ j = 2 ∨ j = 3 := by omega
    rcases this with e | e | e | e <;> subst e <;> exact (hC 10 _ (by decide)).trans rfl
  have sm : (tk_sm I0 p q) ↔ ∀ j : Nat, p ≤ j → j < q → tb_small (I0 14 j) := Iff.rfl
  rcases hm with ⟨g1, g2, rfl, rfl⟩ | ⟨g1, g2, rfl, rfl⟩ | ⟨g1, g2, rfl, rfl⟩ | ⟨g1, g2, rfl⟩
  · rcases hk with h | h | h | h
    · have := h.2.1 p (Nat.le_refl _) hpq
      unfold tb_small at this
      unfold tb_great at g2
      omega
    · rw [h.2.2]
      unfold tb_great at g2
      exact tr_2 rfl (by omega) (by omega)
    · exact absurd g1 h.1
    · exact absurd g1 h.1
  · rcases hk with h | h | h | h
    · rw [h.2.2]; exact tr_4
    · refine absurd ?_ h.2.1
      intro j a c
      have e : j = p := by omega
      rw [e]
      exact hlet.resolve_right g2
    · exact absurd g1 h.1
    · exact absurd g1 h.1
  · rcases hk with h | h | h | h
    · exact absurd h.1 g1
    · exact absurd h.1 g1
    · exact absurd g2 h.2.1
    · have hs : ∀ j : Nat, j < q - p → tb_small (I0 14 (p + j)) := fun j hj => g2.1 (p + j) (by omega) (by omega)
      have lw := tb_ls_w (I0 14) p (q - p)
      have ok : wl_ok (tb_ls (I0 14) p (q - p)) := by
        refine ⟨fun x hx => ?_, by rw [lw.2.2]; omega, by rw [lw.2.2]; exact g2.2⟩
        obtain ⟨j, hj, ej⟩ := tb_ls_mem _ _ _ x hx
        rw [ej]; exact hs j hj
      have k4 : tb_sp I0 3 4 p (q - p) ↔ tb_ls (I0 14) p (q - p) = [97, 116, 97, 100] := tk_spl c4
      have k6 : tb_sp I0 5 3 p (q - p) ↔ tb_ls (I0 14) p (q - p) = [119, 101, 110] := tk_spl c6
      have k8 : tb_sp I0 7 5 p (q - p) ↔ tb_ls (I0 14) p (q - p) = [104, 99, 116, 97, 109] := tk_spl c8
      have k10 : tb_sp I0 9 4 p (q - p) ↔ tb_ls (I0 14) p (q - p) = [110, 101, 104, 119] := tk_spl c10
      have s4 : ∀ x ∈ ([97, 116, 97, 100] : List Int), tb_small x := by unfold tb_small; decide
      have s6 : ∀ x ∈ ([119, 101, 110] : List Int), tb_small x := by unfold tb_small; decide
      have s8 : ∀ x ∈ ([104, 99, 116, 97, 109] : List Int), tb_small x := by unfold tb_small; decide
      have s10 : ∀ x ∈ ([110, 101, 104, 119] : List Int), tb_small x := by unfold tb_small; decide
      rw [k4, k6, k8, k10] at h
      rw [lw.1]
      rcases h.2.2 with ⟨e, rfl⟩ | ⟨_, e, rfl⟩ | ⟨_, _, e, rfl⟩ | ⟨_, _, _, e, rfl⟩ | ⟨n1, n2, n3, n4, rfl⟩
      · rw [e]; exact tr_6
      · rw [e]; exact tr_7
      · rw [e]; exact tr_8
      · rw [e]; exact tr_9
      · refine tr_3 ⟨_, ok, rfl, (hn g2.2).trans lw.2.1⟩ (fun e => n1 ?_) (fun e => n2 ?_) (fun e => n3 ?_) (fun e => n4 ?_)
        · exact wl_inj6 _ _ ok.1 s4 (e.trans (by decide))
        · exact wl_inj6 _ _ ok.1 s6 (e.trans (by decide))
        · exact wl_inj6 _ _ ok.1 s8 (e.trans (by decide))
        · exact wl_inj6 _ _ ok.1 s10 (e.trans (by decide))
  · rcases hk with h | h | h | h
    · exact absurd h.1 g1
    · exact absurd h.1 g1
    · rw [h.2.2]; exact tr_1
    · exact absurd h.2.1 g2
theorem tk_same {len p q q' : Nat} {k num nm s w : Int} (hC : ∀ a j : Nat, a < 11 → I0 a j = am_Zi xs a j) (hpq : p < q') (hX : tk_X I0 len p q k num nm) (hM : tk_M (I0 14) len p q' s w) : q = q' ∧ tk_rel k num nm s w := by
  have ld : tb_let (I0 14 p) → ¬ tb_dig (I0 14 p) := by
    intro h
    unfold tb_let tb_small tb_great tb_dig at *
    omega
  rcases hX with ⟨x1, x2, x3, x4, x5⟩ | ⟨x1, x2, x3, x4, x5⟩ | ⟨x1, x2, x3, x4, x5, x6⟩
  · rcases hM with ⟨m1, m2, m3⟩ | ⟨m1, m2, m3⟩ | ⟨m1, m2, m3, m4⟩
    · have e := tb_run_uniq x2 m2
      subst e
      refine ⟨rfl, ?_⟩
      rw [x3]
      exact tk_let hC hpq x1 x2 x4 x5 m3
    · exact absurd m1 (ld x1)
    · exact absurd x1 m1
  · rcases hM with ⟨m1, m2, m3⟩ | ⟨m1, m2, m3⟩ | ⟨m1, m2, m3, m4⟩
    · exact absurd x1 (ld m1)
    · have e := tb_run_uniq x2 m2
      subst e
      refine ⟨rfl, ?_⟩
      rcases m3 with ⟨g1, rfl, g3⟩ | ⟨g1, rfl⟩
      · rcases x5 with ⟨y1, rfl⟩ | ⟨y1, y2⟩
        · have hle : q - p ≤ 3 := by omega
          have hr := tb_dv_rg (b := I0 14) (p := p) (q - p) (fun j a c => x2.2.2.1 j a (by omega))
          have h8 : (10 : Int) ^ (q - p) ≤ 1000 := by
            have : q - p = 0 ∨ q - p = 1 ∨ q - p = 2 ∨ q - p = 3 := by omega
            rcases this with e | e | e | e <;> rw [e] <;> decide
          have := x3 hle
          exact tr_5 (by omega) (by omega) (by omega)
        · exact absurd g1 y1
      · rcases x5 with ⟨y1, y2⟩ | ⟨y1, rfl⟩
        · exact absurd y1 g1
        · exact tr_1
    · exact absurd x1 m2
  · rcases hM with ⟨m1, m2, m3⟩ | ⟨m1, m2, m3⟩ | ⟨m1, m2, m3, m4⟩
    · exact absurd m1 x1
    · exact absurd m1 x2
    · refine ⟨by omega, ?_⟩
      have c2 : (∃ j : Nat, j < 10 ∧ I0 2 j = I0 14 p) ↔ tb_sg (I0 14 p) := by
        have cs : ∀ j : Nat, j < 10 → I0 2 j = [61, 124, 59, 40, 41, 95, 126, 33, 64, 63].getD j (0 : Int) := by
          intro j hj
          have : j = 0 ∨ j = 1 ∨ j = 2 ∨ j = 3 ∨ j = 4 ∨ j = 5 ∨ j = 6 ∨ j = 7 ∨ j = 8 ∨ j = 9 := by omega
          rcases this with e | e | e | e | e | e | e | e | e | e <;> subst e <;> exact (hC 2 _ (by decide)).trans rfl
        generalize I0 14 p = y
        unfold tb_sg
        constructor
        · rintro ⟨j, hj, e⟩
          rw [cs j hj] at e
          have : j = 0 ∨ j = 1 ∨ j = 2 ∨ j = 3 ∨ j = 4 ∨ j = 5 ∨ j = 6 ∨ j = 7 ∨ j = 8 ∨ j = 9 := by omega
          clear cs
          rcases this with h | h | h | h | h | h | h | h | h | h <;> subst h <;> rw [← e] <;> decide
        · intro h
          rcases h with h | h | h | h | h | h | h | h | h | h
          · exact ⟨0, by decide, (cs 0 (by decide)).trans h.symm⟩
          · exact ⟨1, by decide, (cs 1 (by decide)).trans h.symm⟩
          · exact ⟨2, by decide, (cs 2 (by decide)).trans h.symm⟩
          · exact ⟨3, by decide, (cs 3 (by decide)).trans h.symm⟩
          · exact ⟨4, by decide, (cs 4 (by decide)).trans h.symm⟩
          · exact ⟨5, by decide, (cs 5 (by decide)).trans h.symm⟩
          · exact ⟨6, by decide, (cs 6 (by decide)).trans h.symm⟩
          · exact ⟨7, by decide, (cs 7 (by decide)).trans h.symm⟩
          · exact ⟨8, by decide, (cs 8 (by decide)).trans h.symm⟩
          · exact ⟨9, by decide, (cs 9 (by decide)).trans h.symm⟩
      rw [c2] at x6
      rcases m4 with ⟨g1, rfl, rfl⟩ | ⟨g1, rfl⟩
      · rcases x6 with ⟨y1, rfl⟩ | y
        · exact tr_s y1
        · exact absurd g1 y.1
      · rcases x6 with y | ⟨y1, rfl⟩
        · exact absurd y.1 g1
        · exact tr_1
/-- the tokens of class (c and a last one) and reference -/
def tk_both (I J I' J' : Nat → Nat → Int) (c : Nat) : Prop := (∀ k : Nat, k < c → I 15 k ≠ 1 ∧ I 15 k ≠ 0) ∧ (I 15 c = 0 ∨ I 15 c = 1) ∧ ∀ k : Nat, k ≤ c → I' 104 k = I 16 k ∧ tk_rel (I 15 k) (I 17 k) (J 18 k) (I' 103 k) (J' 105 k)
theorem tk_all {I J I' J' : Nat → Nat → Int} {len c t : Nat} (hC : ∀ a j : Nat, a < 11 → I0 a j = am_Zi xs a j) (hX : tk_fin I0 I J len c) (hM : tm_fin (I0 14) I' J' len t) : c ≤ t ∧ tk_both I J I' J' c := by
  obtain ⟨p, ⟨ps, qs, r0, rc, rk⟩, hnb, hp, hend, -, -, -⟩ := hX
  obtain ⟨i, ⟨pm, es, e0, et, ek⟩, hrl, hml, hms, -⟩ := hM
  have key : ∀ k : Nat, k ≤ c → k ≤ t ∧ tb_run tb_bl (I0 14) len (es k) (ps k) := by
    intro k
    induction k with
    | zero => intro _; rw [e0]; exact ⟨Nat.zero_le _, r0⟩
    | succ k ih =>
      intro hk
      obtain ⟨h1, h2⟩ := ih (by omega)
      have h3 := rk k (by omega)
      have hkt : k < t := by
        rcases Nat.lt_or_ge k t with h | h
        · exact h
        · have e : k = t := by omega
          subst e
          rw [et] at h2
          have := tb_run_uniq h2 hrl
          omega
      have h4 := ek k hkt
      have e5 := tb_run_uniq h2 h4.1
      have h6 := h4.2.2.2.2.2
      rw [← e5] at h6
      have h7 := tk_same hC (by omega) h3.2.2.2.2.1 h6
      rw [← h7.1]
      exact ⟨by omega, h3.2.2.2.2.2⟩
  have ne0 : ∀ (p' q' : Nat) (k' n' m' : Int), tk_X I0 len p' q' k' n' m' → k' ≠ 0 := by
    intro p' q' k' n' m' h e
    subst e
    rcases h with ⟨x1, x2, x3, x4, x5⟩ | ⟨x1, x2, x3, x4, x5⟩ | ⟨x1, x2, x3, x4, x5, x6⟩
    · unfold tb_kind at x5; omega
    · omega
    · rcases x6 with h | h
      · obtain ⟨⟨j, hj, e⟩, e2⟩ := h
        rw [← e2] at e
        rw [hC 2 _ (by decide)] at e
        have g : ∀ j : Nat, j < 10 → ((sv_byt.getD 0 []).getD j 0).toInt ≠ 0 := by decide
        exact g j hj e
      · omega
  refine ⟨(key c (Nat.le_refl _)).1, fun k hk => ⟨hnb k hk, ne0 _ _ _ _ _ (rk k hk).2.2.2.2.1⟩, ?_, fun k hk => ?_⟩
  · rcases hend with h | h
    · exact Or.inl h.2
    · exact Or.inr h.2.1
  · obtain ⟨h1, h2⟩ := key k hk
    rcases Nat.lt_or_ge k c with hlt | hge
    · have h3 := rk k hlt
      have hkt : k < t := by
        have := (key (k + 1) hlt).1
        omega
      have h4 := ek k hkt
      have e5 := tb_run_uniq h2 h4.1
      have h6 := h4.2.2.2.2.2
      rw [← e5] at h6
      have h7 := tk_same hC (by omega) h3.2.2.2.2.1 h6
      exact ⟨by rw [h4.2.2.2.2.1, h3.2.2.2.1, e5], h7.2⟩
    · have e : k = c := by omega
      subst e
      rw [rc] at h2
      rcases hend with ⟨g1, g2⟩ | ⟨g1, g2, q, g3⟩
      · have hkt : k = t := by
          rcases Nat.lt_or_ge k t with h | h
          · have h4 := ek k h
            have := tb_run_uniq h2 h4.1
            omega
          · omega
        subst hkt
        rw [hml, hp, g1, g2, hms]
        exact ⟨rfl, tr_0⟩
      · have hkt : k < t := by
          rcases Nat.lt_or_ge k t with h | h
          · exact h
          · have e : k = t := by omega
            subst e
            rw [et] at h2
            have := tb_run_uniq h2 hrl
            omega
        have h4 := ek k hkt
        have e5 := tb_run_uniq h2 h4.1
        have h6 := h4.2.2.2.2.2
        rw [← e5] at h6
        have h7 := tk_same hC (by omega) g3 h6
        rw [h4.2.2.2.2.1, hp, e5, g2]
        exact ⟨rfl, h7.2⟩
end REL
