/-! SEARCH: the first way out -/
def fo (K : Nat → Int) (A : List (Nat × Int)) : Option (Nat × Int) := A.find? (fun x => decide (K x.1 = -1))
theorem fo_some {K : Nat → Int} {A : List (Nat × Int)} {x : Nat × Int} (h : fo K A = some x) : x ∈ A ∧ K x.1 = -1 := ⟨List.mem_of_find?_eq_some h, by have := List.find?_some h; simpa using this⟩
theorem fo_none {K : Nat → Int} {A : List (Nat × Int)} (h : fo K A = none) : ∀ x ∈ A, K x.1 ≠ -1 := by
  intro x hx
  have := List.find?_eq_none.mp h x hx
  simpa using this
/-- a parent is asked for ahead of its children -/
def aOrd : List (Nat × Int) → List (Nat × Int) → Prop
  | _, [] => True
  | P, x :: A => (4 < x.1 → ∃ c : Int, (pr x.1, c) ∈ P) ∧ aOrd (P ++ [x]) A
theorem fo_pco {K : Nat → Int} : ∀ (A P : List (Nat × Int)) (x : Nat × Int), aOrd P A → (∀ y ∈ P, K y.1 ≠ -1) → lft K (P ++ A) → fo K A = some x → ∀ B : List (Nat × Int), (∀ y ∈ P ++ A, y ∈ B) → pco K B x.1 := by
  intro A
  induction A with
  | nil => intro P x _ _ _ h; exact absurd h (by simp [fo])
  | cons y A ih =>
    intro P x ho hP hl hf B hBm
    by_cases e : K y.1 = -1
    · have hy : fo K (y :: A) = some y := by simp [fo, e]
      rw [hy] at hf
      have : y = x := by simpa using hf
      subst this
      rcases Nat.lt_or_ge 4 y.1 with h | h
      · obtain ⟨c, hc⟩ := ho.1 h
        refine Or.inr ⟨c, hBm _ (by simp [hc]), ?_⟩
        have := hl (pr y.1, c) (by simp [hc])
        rcases this with q | q
        · exact absurd q (hP _ hc)
        · exact q
      · exact Or.inl h
    · have hy : fo K (y :: A) = fo K A := by simp [fo, e]
      rw [hy] at hf
      refine ih (P ++ [y]) x ho.2 (fun z hz => ?_) ?_ hf B ?_
      · rcases List.mem_append.mp hz with q | q
        · exact hP z q
        · have : z = y := by simpa using q
          rw [this]; exact e
      · rw [List.append_assoc]; exact hl
      · intro z hz
        rw [List.append_assoc] at hz
        exact hBm z hz
section PTH
variable (a : Nat → List (Nat × Int)) (nr : Nat) (tw : Int → Nat) (vd : Int → Prop) (S : Nat → Prop)
def nol (K : Nat → Int) : Prop := ∀ ρ : Nat, ρ < nr → S ρ → ¬ lft K (a ρ)
def isF (K : Nat → Int) (ρ : Nat) : Prop := ρ < nr ∧ S ρ ∧ lft K (a ρ) ∧ ∀ ρ' : Nat, ρ' < ρ → S ρ' → ¬ lft K (a ρ')
def wnd (K : Nat → Int) (p : Nat) (v : Int) : Prop := ∃ ρ : Nat, ρ < nr ∧ S ρ ∧ lft K (a ρ) ∧ (p, v) ∈ a ρ
def Nx (K : Nat → Int) (p : Nat) (w v : Int) : Prop := vd v ∧ tw v = tw w ∧ Sem a nr tw vd S (ku K p v) ∧ (w < 100 → ∀ v' : Int, vd v' → tw v' = tw w → v' < v → ¬ Sem a nr tw vd S (ku K p v')) ∧ (100 ≤ w → 100 ≤ v ∧ ((wnd a nr S K p v ∧ ∀ v' : Int, wnd a nr S K p v' → v' < v → ¬ Sem a nr tw vd S (ku K p v')) ∨ (¬ wnd a nr S K p v ∧ (∀ v' : Int, 100 ≤ v' → v' < v → wnd a nr S K p v') ∧ ∀ v' : Int, wnd a nr S K p v' → ¬ Sem a nr tw vd S (ku K p v'))))
def Fst : Nat → (Nat → Int) → (Nat → Int) → Prop
  | 0, K, K' => nol a nr S K ∧ K' = K
  | n + 1, K, K' => (nol a nr S K ∧ K' = K) ∨ ∃ (ρ p : Nat) (w v : Int), isF a nr S K ρ ∧ fo K (a ρ) = some (p, w) ∧ Nx a nr tw vd S K p w v ∧ Fst n (ku K p v) K'
end PTH
section PTL
variable {a : Nat → List (Nat × Int)} {nr : Nat} {tw : Int → Nat} {vd : Int → Prop} {S : Nat → Prop} {K : Nat → Int}
theorem Nx_uniq {p : Nat} {w v v' : Int} (h : Nx a nr tw vd S K p w v) (h' : Nx a nr tw vd S K p w v') : v = v' := by
  obtain ⟨a1, a2, a3, a4, a5⟩ := h
  obtain ⟨b1, b2, b3, b4, b5⟩ := h'
  rcases Int.lt_or_le w 100 with hw | hw
  · rcases Int.lt_trichotomy v v' with q | q | q
    · exact absurd a3 (b4 hw v a1 a2 q)
    · exact q
    · exact absurd b3 (a4 hw v' b1 b2 q)
  · obtain ⟨c1, c2⟩ := a5 hw
    obtain ⟨d1, d2⟩ := b5 hw
    rcases c2 with ⟨e1, e2⟩ | ⟨e1, e2, e3⟩ <;> rcases d2 with ⟨f1, f2⟩ | ⟨f1, f2, f3⟩
    · rcases Int.lt_trichotomy v v' with q | q | q
      · exact absurd a3 (f2 v e1 q)
      · exact q
      · exact absurd b3 (e2 v' f1 q)
    · exact absurd a3 (f3 v e1)
    · exact absurd b3 (e3 v' f1)
    · rcases Int.lt_trichotomy v v' with q | q | q
      · exact absurd (f2 v c1 q) e1
      · exact q
      · exact absurd (e2 v' d1 q) f1
theorem isF_uniq {ρ ρ' : Nat} (h : isF a nr S K ρ) (h' : isF a nr S K ρ') : ρ = ρ' := by
  rcases Nat.lt_trichotomy ρ ρ' with q | q | q
  · exact absurd h.2.2.1 (h'.2.2.2 ρ q h.2.1)
  · exact q
  · exact absurd h'.2.2.1 (h.2.2.2 ρ' q h'.2.1)
theorem Fst_nol : ∀ (n : Nat) (K K' : Nat → Int), Fst a nr tw vd S n K K' → nol a nr S K → K' = K := by
  intro n K K' h hn
  cases n with
  | zero => exact h.2
  | succ n =>
    rcases h with h | ⟨ρ, p, w, v, h1, -⟩
    · exact h.2
    · exact absurd h1.2.2.1 (hn ρ h1.1 h1.2.1)
theorem Fst_uniq : ∀ (n m : Nat) (K K1 K2 : Nat → Int), Fst a nr tw vd S n K K1 → Fst a nr tw vd S m K K2 → K1 = K2 := by
  intro n
  induction n with
  | zero =>
    intro m K K1 K2 h1 h2
    rw [h1.2, Fst_nol m K K2 h2 h1.1]
  | succ n ih =>
    intro m K K1 K2 h1 h2
    rcases h1 with ⟨g1, g2⟩ | ⟨ρ, p, w, v, g1, g2, g3, g4⟩
    · rw [g2, Fst_nol m K K2 h2 g1]
    · cases m with
      | zero => exact absurd g1.2.2.1 (h2.1 ρ g1.1 g1.2.1)
      | succ m =>
        rcases h2 with ⟨f1, f2⟩ | ⟨ρ', p', w', v', f1, f2, f3, f4⟩
        · exact absurd g1.2.2.1 (f1 ρ g1.1 g1.2.1)
        · have e := isF_uniq g1 f1
          subst e
          rw [g2] at f2
          have e2 := Option.some.inj f2
          have e3 : p = p' := congrArg Prod.fst e2
          have e4 : w = w' := congrArg Prod.snd e2
          subst e3
          subst e4
          have e5 := Nx_uniq g3 f3
          subst e5
          exact ih m _ K1 K2 g4 f4
/-- a step is open, or the row matches -/
theorem Sem_find {ρ : Nat} (hF : isF a nr S K ρ) (hf : fo K (a ρ) = none) : ¬ Sem a nr tw vd S K := Sem_stuck hF.1 hF.2.1 hF.2.2.1 (fo_none hf)
theorem fo_at {ρ p : Nat} {w : Int} (hF : isF a nr S K ρ) (ho : aOrd [] (a ρ)) (hf : fo K (a ρ) = some (p, w)) : (p, w) ∈ a ρ ∧ K p = -1 ∧ pco K (a ρ) p := by
  obtain ⟨h1, h2⟩ := fo_some hf
  exact ⟨h1, h2, fo_pco (a ρ) [] (p, w) ho (fun y hy => absurd hy (by simp)) hF.2.2.1 hf (a ρ) (fun y hy => hy)⟩
/-- one of the first numbers is in no list that is shorter -/
theorem pig_le : ∀ (k : Nat) (l : List Int), (∀ n : Nat, n < k → (n : Int) ∈ l) → k ≤ l.length := by
  intro k
  induction k with
  | zero => intro l _; exact Nat.zero_le _
  | succ k ih =>
    intro l h
    have hm := h k (by omega)
    have h1 := ih (l.erase (k : Int)) (fun n hn => (List.mem_erase_of_ne (by omega)).mpr (h n (by omega)))
    have h2 := List.length_erase_of_mem hm
    have h3 : 0 < l.length := List.length_pos_of_mem hm
    omega
theorem pig (l : List Int) : ∃ n : Nat, n ≤ l.length ∧ (n : Int) ∉ l := by
  rcases Classical.em (∃ n : Nat, n ≤ l.length ∧ (n : Int) ∉ l) with h | h
  · exact h
  · exfalso
    have := pig_le (l.length + 1) l (fun n hn => by
      rcases Classical.em ((n : Int) ∈ l) with q | q
      · exact q
      · exact absurd ⟨n, by omega, q⟩ h)
    omega
/-- a number that no row wants -/
theorem unw (hA : aOk a nr tw vd) (p : Nat) (K : Nat → Int) (b : Int) : ∃ n : Nat, n ≤ nr ∧ ¬ wnd a nr S K p (b + (n : Int)) := by
  obtain ⟨n, h1, h2⟩ := pig ((List.range nr).map (fun ρ => match (a ρ).find? (fun x => decide (x.1 = p)) with
    | some x => x.2 - b
    | none => -1))
  rw [List.length_map, List.length_range] at h1
  refine ⟨n, h1, ?_⟩
  rintro ⟨ρ, hρ, -, -, hm⟩
  apply h2
  rw [List.mem_map]
  refine ⟨ρ, List.mem_range.mpr hρ, ?_⟩
  rcases hf : (a ρ).find? (fun x => decide (x.1 = p)) with _ | x
  · have := List.find?_eq_none.mp hf _ hm
    simp at this
  · have hx := List.mem_of_find?_eq_some hf
    have hp := List.find?_some hf
    have hp : x.1 = p := by simpa using hp
    have := hA.2.1 ρ hρ x hx _ hm hp
    have this : x.2 = b + (n : Int) := this
    rw [hf]
    show x.2 - b = (n : Int)
    omega
end PTL
