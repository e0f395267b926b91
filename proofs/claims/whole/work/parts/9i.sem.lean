/-! SEARCH: what can be settled -/
def pr (q : Nat) : Nat := (q - 1) / 4
def ku (K : Nat → Int) (p : Nat) (v : Int) : Nat → Int := fun q => if q = p then v else K q
def lft (K : Nat → Int) (A : List (Nat × Int)) : Prop := ∀ x ∈ A, K x.1 = -1 ∨ K x.1 = x.2
def pco (K : Nat → Int) (A : List (Nat × Int)) (p : Nat) : Prop := p ≤ 4 ∨ ∃ c : Int, (pr p, c) ∈ A ∧ K (pr p) = c
section SEM
variable (a : Nat → List (Nat × Int)) (nr : Nat) (tw : Int → Nat) (vd : Int → Prop)
/-- what the rows' asks have among themselves -/
def aOk : Prop := (∀ ρ : Nat, ρ < nr → ∀ x ∈ a ρ, 1 ≤ x.1 ∧ vd x.2 ∧ x.2 ≠ -1 ∧ (4 < x.1 → ∃ c : Int, (pr x.1, c) ∈ a ρ)) ∧ (∀ ρ : Nat, ρ < nr → ∀ x ∈ a ρ, ∀ y ∈ a ρ, x.1 = y.1 → x.2 = y.2) ∧ (∀ ρ ρ' : Nat, ρ < nr → ρ' < nr → ∀ x ∈ a ρ, ∀ y ∈ a ρ', x.1 = y.1 → (x.1 ≤ 4 ∨ ∃ c : Int, (pr x.1, c) ∈ a ρ ∧ (pr x.1, c) ∈ a ρ') → tw x.2 = tw y.2) ∧ ∀ v : Int, vd v → v ≠ -1
def clo (K : Nat → Int) : Prop := ∀ q : Nat, K q ≠ -1 → 4 < q → K (pr q) ≠ -1
def typ (K : Nat → Int) : Prop := ∀ ρ : Nat, ρ < nr → ∀ x ∈ a ρ, K x.1 ≠ -1 → pco K (a ρ) x.1 → vd (K x.1) ∧ tw (K x.1) = tw x.2
def Sem (S : Nat → Prop) (K : Nat → Int) : Prop := ∃ K' : Nat → Int, (∀ p : Nat, K p ≠ -1 → K' p = K p) ∧ clo K' ∧ typ a nr tw vd K' ∧ ∀ ρ : Nat, ρ < nr → S ρ → ¬ lft K' (a ρ)
end SEM
theorem ku_eq {K : Nat → Int} {p : Nat} {v : Int} : ku K p v p = v := if_pos rfl
theorem ku_ne {K : Nat → Int} {p q : Nat} {v : Int} (h : q ≠ p) : ku K p v q = K q := if_neg h
theorem lft_ku {K : Nat → Int} {p : Nat} {v : Int} {A : List (Nat × Int)} (hp : K p = -1) (hv : v ≠ -1) : lft (ku K p v) A ↔ lft K A ∧ ∀ x ∈ A, x.1 = p → x.2 = v := by
  constructor
  · intro h
    refine ⟨fun x hx => ?_, fun x hx e => ?_⟩
    · by_cases e : x.1 = p
      · left; rw [e]; exact hp
      · have := h x hx
        rw [ku_ne e] at this
        exact this
    · have := h x hx
      rw [e, ku_eq] at this
      rcases this with q | q
      · exact absurd q hv
      · exact q.symm
  · rintro ⟨h1, h2⟩ x hx
    by_cases e : x.1 = p
    · right; rw [h2 x hx e, e]; exact ku_eq
    · rw [ku_ne e]; exact h1 x hx
theorem pr_lt {q : Nat} (h : 1 ≤ q) : pr q < q := by unfold pr; omega
section SEML
variable {a : Nat → List (Nat × Int)} {nr : Nat} {tw : Int → Nat} {vd : Int → Prop} {S : Nat → Prop} {K : Nat → Int}
theorem Sem_none (hc : clo K) (ht : typ a nr tw vd K) (h : ∀ ρ : Nat, ρ < nr → S ρ → ¬ lft K (a ρ)) : Sem a nr tw vd S K := ⟨K, fun _ _ => rfl, hc, ht, h⟩
theorem Sem_stuck {ρ : Nat} (hρ : ρ < nr) (hS : S ρ) (hl : lft K (a ρ)) (h : ∀ x ∈ a ρ, K x.1 ≠ -1) : ¬ Sem a nr tw vd S K := by
  rintro ⟨K', h1, -, -, h4⟩
  refine h4 ρ hρ hS (fun x hx => Or.inr ?_)
  rw [h1 x.1 (h x hx)]
  rcases hl x hx with q | q
  · exact absurd q (h x hx)
  · exact q
theorem ct_ku {ρ p : Nat} {w v : Int} (hA : aOk a nr tw vd) (hc : clo K) (ht : typ a nr tw vd K) (hρ : ρ < nr) (hx : (p, w) ∈ a ρ) (hp : K p = -1) (hpc : pco K (a ρ) p) (hv : vd v) (hw : tw v = tw w) : clo (ku K p v) ∧ typ a nr tw vd (ku K p v) := by
  obtain ⟨a1, a2, a3, a4⟩ := hA
  have hv1 := a4 v hv
  have p1 := (a1 ρ hρ _ hx).1
  have p1 : 1 ≤ p := p1
  refine ⟨fun q hq h4 => ?_, fun ρ' hρ' x hx' hq hpco => ?_⟩
  · by_cases e : pr q = p
    · rw [e, ku_eq]; exact hv1
    · rw [ku_ne e]
      by_cases e2 : q = p
      · subst e2
        rcases hpc with h | ⟨c, h1, h2⟩
        · omega
        · rw [h2]; exact (a1 ρ hρ _ h1).2.2.1
      · rw [ku_ne e2] at hq
        exact hc q hq h4
  · by_cases e : x.1 = p
    · rw [e, ku_eq]
      refine ⟨hv, ?_⟩
      rw [hw]
      have := pr_lt p1
      refine a3 ρ ρ' hρ hρ' (p, w) hx x hx' e.symm ?_
      rcases hpc with h | ⟨c, h1, h2⟩
      · exact Or.inl h
      · right
        rcases hpco with h | ⟨c', h1', h2'⟩
        · exfalso
          rw [e] at h
          have h0 : pr p = 0 := by unfold pr; omega
          have h9 : 1 ≤ pr p := (a1 ρ hρ _ h1).1
          omega
        · rw [e] at h1' h2'
          rw [ku_ne (by omega), h2] at h2'
          rw [h2'] at h1
          exact ⟨c', h1, h1'⟩
    · rw [ku_ne e] at hq ⊢
      refine ht ρ' hρ' x hx' hq ?_
      rcases hpco with h | ⟨c', h1', h2'⟩
      · exact Or.inl h
      · by_cases e2 : pr x.1 = p
        · exfalso
          have h4 : 4 < x.1 := by
            rcases Nat.lt_or_ge 4 x.1 with q | q
            · exact q
            · have : pr x.1 = 0 := by unfold pr; omega
              omega
          exact hc x.1 hq h4 (by rw [e2]; exact hp)
        · rw [ku_ne e2] at h2'
          exact Or.inr ⟨c', h1', h2'⟩
theorem Sem_up {p : Nat} {v : Int} (hp : K p = -1) (h : Sem a nr tw vd S (ku K p v)) : Sem a nr tw vd S K := by
  obtain ⟨K', h1, h2, h3, h4⟩ := h
  refine ⟨K', fun q hq => ?_, h2, h3, h4⟩
  have e : q ≠ p := fun e => hq (by rw [e]; exact hp)
  rw [h1 q (by rw [ku_ne e]; exact hq), ku_ne e]
theorem Sem_step {ρ p : Nat} {w : Int} (hA : aOk a nr tw vd) (hρ : ρ < nr) (hx : (p, w) ∈ a ρ) (hp : K p = -1) (hpc : pco K (a ρ) p) (h : Sem a nr tw vd S K) : ∃ v : Int, vd v ∧ tw v = tw w ∧ Sem a nr tw vd S (ku K p v) := by
  obtain ⟨K', h1, h2, h3, h4⟩ := h
  have hA0 := hA
  obtain ⟨a1, a2, a3, a4⟩ := hA
  have hw := a1 ρ hρ _ hx
  have hpc' : pco K' (a ρ) p := by
    rcases hpc with q | ⟨c, q1, q2⟩
    · exact Or.inl q
    · refine Or.inr ⟨c, q1, ?_⟩
      rw [h1 (pr p) (by rw [q2]; exact (a1 ρ hρ _ q1).2.2.1)]; exact q2
  by_cases hk : K' p = -1
  · obtain ⟨c1, c2⟩ := ct_ku hA0 h2 h3 hρ hx hk hpc' hw.2.1 rfl
    refine ⟨w, hw.2.1, rfl, ku K' p w, fun q hq => ?_, c1, c2, fun ρ' hρ' hS hl => ?_⟩
    · by_cases e : q = p
      · rw [e, ku_eq, ku_eq]
      · rw [ku_ne e] at hq ⊢
        rw [ku_ne e]; exact h1 q hq
    · exact h4 ρ' hρ' hS ((lft_ku hk hw.2.2.1).mp hl).1
  · obtain ⟨t1, t2⟩ := h3 ρ hρ _ hx hk hpc'
    refine ⟨K' p, t1, t2, K', fun q hq => ?_, h2, h3, h4⟩
    by_cases e : q = p
    · rw [e, ku_eq]
    · rw [ku_ne e] at hq ⊢
      exact h1 q hq
theorem clo_un (hc : clo K) : ∀ (k p q : Nat), 1 ≤ p → pq k q = p → K q ≠ -1 → K p ≠ -1 := by
  intro k
  induction k with
  | zero =>
    intro p q _ h hq
    have : q = p := h
    rw [← this]; exact hq
  | succ k ih =>
    intro p q hp h hq
    have h' : pq k (pr q) = p := h
    have h4 : 4 < q := by
      rcases Nat.lt_or_ge 4 q with g | g
      · exact g
      · exfalso
        have e0 : pr q = 0 := by unfold pr; omega
        rw [e0] at h'
        have := pq_le k 0
        omega
    exact ih p (pr q) hp h' (hc q hq h4)
theorem anc_in {ρ : Nat} (hA : aOk a nr tw vd) (hρ : ρ < nr) : ∀ (k p q : Nat) (x : Int), 1 ≤ p → pq k q = p → (q, x) ∈ a ρ → ∃ c : Int, (p, c) ∈ a ρ := by
  intro k
  induction k with
  | zero =>
    intro p q x _ h hq
    have : q = p := h
    rw [← this]; exact ⟨x, hq⟩
  | succ k ih =>
    intro p q x hp h hq
    have h' : pq k (pr q) = p := h
    have h4 : 4 < q := by
      rcases Nat.lt_or_ge 4 q with g | g
      · exact g
      · exfalso
        have e0 : pr q = 0 := by unfold pr; omega
        rw [e0] at h'
        have := pq_le k 0
        omega
    obtain ⟨c, hc⟩ := (hA.1 ρ hρ _ hq).2.2.2 h4
    exact ih p (pr q) c hp h' hc
/-- what no row wants is as good as anything -/
theorem Sem_un {ρ p : Nat} {w u v : Int} (hA : aOk a nr tw vd) (hc : clo K) (hρ : ρ < nr) (hx : (p, w) ∈ a ρ) (hp : K p = -1) (hpc : pco K (a ρ) p) (hu : vd u) (hut : tw u = tw w) (hun : ∀ ρ' : Nat, ρ' < nr → S ρ' → lft K (a ρ') → (p, u) ∉ a ρ') (hv : v ≠ -1) (h : Sem a nr tw vd S (ku K p v)) : Sem a nr tw vd S (ku K p u) := by
  have hA0 := hA
  obtain ⟨a1, a2, a3, a4⟩ := hA
  obtain ⟨K', h1, h2, h3, h4⟩ := h
  have p1 : 1 ≤ p := (a1 ρ hρ _ hx).1
  have hu1 := a4 u hu
  have kp : K' p = v := by
    have := h1 p (by rw [ku_eq]; exact hv)
    rw [this, ku_eq]
  have kx : ∀ q : Nat, K q ≠ -1 → K' q = K q := by
    intro q hq
    have e : q ≠ p := fun e => hq (by rw [e]; exact hp)
    rw [h1 q (by rw [ku_ne e]; exact hq), ku_ne e]
  have nun : ∀ q : Nat, K q ≠ -1 → ¬ un p q := by
    rintro q hq ⟨k, hk⟩
    exact clo_un hc k p q p1 hk hq hp
  have prp : pr p < p := pr_lt p1
  have npr : ¬ un p (pr p) := by
    rintro ⟨k, hk⟩
    have := pq_le k (pr p)
    omega
  obtain ⟨K2, e1, e2, e3⟩ : ∃ K2 : Nat → Int, K2 p = u ∧ (∀ q : Nat, q ≠ p → un p q → K2 q = -1) ∧ ∀ q : Nat, ¬ un p q → K2 q = K' q := by
    refine ⟨fun q => @ite Int (q = p) (Classical.propDecidable _) u (@ite Int (un p q) (Classical.propDecidable _) (-1) (K' q)), ?_, fun q h1 h2 => ?_, fun q h2 => ?_⟩
    · simp
    · simp [h1, h2]
    · have : q ≠ p := fun e => h2 (by rw [e]; exact un_refl)
      simp [this, h2]
  have par_un : ∀ q : Nat, 1 ≤ q → un p (pr q) → un p q := by
    rintro q hq ⟨k, hk⟩
    exact ⟨k + 1, hk⟩
  refine ⟨K2, fun q hq => ?_, fun q hq h4' => ?_, fun ρ' hρ' x hx' hq hpco => ?_, fun ρ' hρ' hS hl => ?_⟩
  · by_cases e : q = p
    · rw [e, e1, ku_eq]
    · rw [ku_ne e] at hq ⊢
      rw [e3 q (nun q hq)]; exact kx q hq
  · by_cases e : q = p
    · subst e
      rw [e3 _ npr]
      exact h2 q (by rw [kp]; exact hv) h4'
    · have nq : ¬ un p q := fun hu' => hq (e2 q e hu')
      rw [e3 q nq] at hq
      rw [e3 (pr q) (fun h' => nq (par_un q (by omega) h'))]
      exact h2 q hq h4'
  · by_cases e : x.1 = p
    · rw [e, e1]
      refine ⟨hu, ?_⟩
      rw [hut]
      refine a3 ρ ρ' hρ hρ' (p, w) hx x hx' e.symm ?_
      rcases hpc with h | ⟨c, g1, g2⟩
      · exact Or.inl h
      · right
        rcases hpco with h | ⟨c', g1', g2'⟩
        · exfalso
          rw [e] at h
          have h0 : pr p = 0 := by unfold pr; omega
          have h9 : 1 ≤ pr p := (a1 ρ hρ _ g1).1
          omega
        · rw [e] at g1' g2'
          rw [e3 _ npr, kx (pr p) (by rw [g2]; exact (a1 ρ hρ _ g1).2.2.1), g2] at g2'
          rw [← g2'] at g1'
          exact ⟨c, g1, g1'⟩
    · have nq : ¬ un p x.1 := fun hu' => hq (e2 x.1 e hu')
      rw [e3 x.1 nq] at hq ⊢
      refine h3 ρ' hρ' x hx' hq ?_
      rcases hpco with h | ⟨c', g1', g2'⟩
      · exact Or.inl h
      · refine Or.inr ⟨c', g1', ?_⟩
        rw [e3 (pr x.1) (fun h' => nq (par_un x.1 (a1 ρ' hρ' x hx').1 h'))] at g2'
        exact g2'
  · by_cases hlK : lft K (a ρ')
    · -- a row that is left wants something else here, or is killed elsewhere
      have hno := hun ρ' hρ' hS hlK
      have np : ∀ c : Int, (p, c) ∉ a ρ' := by
        intro c hc'
        have := hl _ hc'
        have this : K2 p = -1 ∨ K2 p = c := this
        rw [e1] at this
        rcases this with q | q
        · exact hu1 q
        · exact hno (by rw [q]; exact hc')
      refine h4 ρ' hρ' hS (fun x hx' => ?_)
      have nq : ¬ un p x.1 := by
        rintro ⟨k, hk⟩
        obtain ⟨c, hc'⟩ := anc_in hA0 hρ' k p x.1 x.2 p1 hk hx'
        exact np c hc'
      have := hl x hx'
      rw [e3 x.1 nq] at this
      exact this
    · apply hlK
      intro x hx'
      by_cases hk : K x.1 = -1
      · exact Or.inl hk
      · have := hl x hx'
        rw [e3 x.1 (nun x.1 hk), kx x.1 hk] at this
        exact this
end SEML
