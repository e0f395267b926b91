/-! MEANING: pats and values -/
def tm_at : (n : Nat) → tm n → Int
  | 0, _ => 0
  | _ + 1, t => (tm_l t).2.1
def ls_f {T : Type} (f : Int → T → Option Int) (at' : T → Int) (e : Int) : (Nat → Int) → Nat → List T → Option Int
  | _, 0, [] => none
  | _, 0, t :: _ => some (at' t)
  | _, _ + 1, [] => some e
  | W, m + 1, t :: ts => oe (f (W 0) t) (ls_f f at' e (fun i => W (i + 1)) m ts)
def ls_A {T : Type} (G : Nat → T → Prop) (f : T → Nat) : Nat → List T → Prop
  | _, [] => True
  | i, t :: ts => G i t ∧ ls_A G f (i + f t) ts
section TMF
variable (cof : Int → Int) (cT ar aT : Nat → Int)
def tf : (n : Nat) → Int → tm n → Option Int
  | 0, _, _ => none
  | n + 1, w, t =>
    if (tm_l t).1 = 4 then (if w = 6 then none else some (tm_l t).2.1)
    else if (tm_l t).1 = 5 ∨ (tm_l t).1 = 6 then
      (if cof (tm_l t).2.2.2.2.1 = -1 ∨ cT (cof (tm_l t).2.2.2.2.1).toNat ≠ w then some (tm_l t).2.2.1
      else if (tm_l t).1 = 5 then (if ar (cof (tm_l t).2.2.2.2.1).toNat = 0 then none else some (tm_l t).2.2.1)
      else ls_f (tf n) (tm_at n) (tm_l t).2.2.2.1 (fun i => aT (3 * (cof (tm_l t).2.2.2.2.1).toNat + i)) (ar (cof (tm_l t).2.2.2.2.1).toNat).toNat (tm_k t))
    else match tm_k t with
      | [] => none
      | k :: _ => tf n w k
end TMF
def tm_ok : (n : Nat) → tm n → Prop
  | 0, _ => False
  | n + 1, t => 0 ≤ (tm_l t).2.1 ∧ 0 ≤ (tm_l t).2.2.1 ∧ 0 ≤ (tm_l t).2.2.2.1 ∧ (((tm_l t).1 = 0 ∨ (tm_l t).1 = 5 ∨ (tm_l t).1 = 7) ∧ tm_k t = [] ∨ (tm_l t).1 = 4 ∧ tm_k t = [] ∧ 0 ≤ (tm_l t).2.2.2.2.2 ∧ (tm_l t).2.2.2.2.2 ≤ 999 ∨ (((tm_l t).1 = 1 ∨ (tm_l t).1 = 2 ∨ (tm_l t).1 = 3) ∧ ∃ k : tm n, tm_k t = [k] ∧ tm_ok n k) ∨ (tm_l t).1 = 6 ∧ tm_k t ≠ [] ∧ ∀ k ∈ tm_k t, tm_ok n k)
/-- the constructors' numbers, once asked for -/
def ft_G (I : Nat → Nat → Int) (b : Nat) (cof : Int → Int) : (n : Nat) → Nat → tm n → Prop
  | 0, _, _ => False
  | n + 1, i, t => ((tm_l t).1 = 5 ∨ (tm_l t).1 = 6 → I (b + 7) i = cof (tm_l t).2.2.2.2.1) ∧ ls_A (ft_G I b cof n) (tm_sz n) (i + 1) (tm_k t)
theorem ft_G_fr {I I' : Nat → Nat → Int} {b : Nat} {cof : Int → Int} : ∀ (n i : Nat) (t : tm n), ft_G I b cof n i t → (∀ j : Nat, i ≤ j → j < i + tm_sz n t → I' (b + 7) j = I (b + 7) j) → ft_G I' b cof n i t := by
  intro n
  induction n with
  | zero => intro i t h _; exact h
  | succ n ih =>
    intro i t h hf
    have ez : tm_sz (n + 1) t = 1 + ls_sz (tm_sz n) (tm_k t) := rfl
    refine ⟨fun hk => (hf i (by omega) (by omega)).trans (h.1 hk), ?_⟩
    have key : ∀ (ts : List (tm n)) (j : Nat), i + 1 ≤ j → j + ls_sz (tm_sz n) ts ≤ i + tm_sz (n + 1) t → ls_A (ft_G I b cof n) (tm_sz n) j ts → ls_A (ft_G I' b cof n) (tm_sz n) j ts := by
      intro ts
      induction ts with
      | nil => intro j _ _ _; exact trivial
      | cons u ts ih2 =>
        intro j h1 h2 h3
        have e2 : ls_sz (tm_sz n) (u :: ts) = tm_sz n u + ls_sz (tm_sz n) ts := rfl
        exact ⟨ih j u h3.1 (fun k a1 a2 => hf k (by omega) (by omega)), ih2 (j + tm_sz n u) (by omega) (by omega) h3.2⟩
    exact key (tm_k t) (i + 1) (Nat.le_refl _) (by omega) h.2
theorem ft_GL_fr {I I' : Nat → Nat → Int} {b n : Nat} {cof : Int → Int} : ∀ (ts : List (tm n)) (i : Nat), ls_A (ft_G I b cof n) (tm_sz n) i ts → (∀ j : Nat, i ≤ j → j < i + ls_sz (tm_sz n) ts → I' (b + 7) j = I (b + 7) j) → ls_A (ft_G I' b cof n) (tm_sz n) i ts := by
  intro ts
  induction ts with
  | nil => intro i _ _; exact trivial
  | cons u ts ih =>
    intro i h hf
    have e2 : ls_sz (tm_sz n) (u :: ts) = tm_sz n u + ls_sz (tm_sz n) ts := rfl
    exact ⟨ft_G_fr n i u h.1 (fun k a1 a2 => hf k (by omega) (by omega)), ih _ h.2 (fun k a1 a2 => hf k (by omega) (by omega))⟩
def xe (g cT ar aT : Nat → Int) (r m : Nat) (I J : Nat → Nat → Int) : Prop := I (r + 1) 1 = (m : Int) ∧ I (r + 5) = cT ∧ I (r + 6) = ar ∧ I (r + 8) = aT ∧ J (r + 7) = g
section XFF
variable (g cT ar aT : Nat → Int) (r m : Nat)
def xg_T (n : Nat) : Prop := ∀ (n0 : Nat) (K : Nat → am_K) (I J : Nat → Nat → Int) (R : Nat → Nat → Option Nat) (Q : am_Q) (b i : Nat) (w : Int) (t : tm n) (D : Nat), am_B K R → (r = 41 ∨ r = 71) → (b = 19 ∨ b = r + 15) → ft_H I J b n i t → tm_ok n t → i + tm_sz n t ≤ 60 → xe g cT ar aT r m I J → m ≤ 36 → (∀ c : Nat, c < m → 0 ≤ ar c ∧ ar c ≤ 3) → 2 * n + 1 ≤ D → (∀ I' : Nat → Nat → Int, (∀ x j : Nat, ¬ (x = b + 7 ∧ i ≤ j ∧ j < i + tm_sz n t) → I' x j = I x j) → (tf (fx g m) cT ar aT n w t = none → ft_G I' b (fx g m) n i t) → Q (some (.inl (oi (tf (fx g m) cT ar aT n w t)))) (n0, K, I', J, R)) → am_WP D (am_entry 114 [.inr (.inl r), .inr (.inl b), .inl (i : Int), .inl w] (n0, K, I, J, R)) Q
def xg_L (n : Nat) : Prop := ∀ (n0 : Nat) (K : Nat → am_K) (R : Nat → Nat → Option Nat) (Q : am_Q) (b a3 len fr many : Nat) (e : Int) (x2 : Int) (J : Nat → Nat → Int) (D : Nat), am_B K R → (r = 41 ∨ r = 71) → (b = 19 ∨ b = r + 15) → m ≤ 36 → (∀ c : Nat, c < m → 0 ≤ ar c ∧ ar c ≤ 3) → K a3 = .inr (0, len) → a3 ≠ b + 7 → fr + many ≤ len → len ≤ 200 → 2 * n + 2 ≤ D → ∀ (ts : List (tm n)) (k i : Nat) (I : Nat → Nat → Int) (W : Nat → Int), k ≤ many → (∀ z : Nat, z < many - k → I a3 (fr + k + z) = W z) → ls_H (ft_H I J b n) (tm_sz n) (I (b + 9)) i ts → (∀ t ∈ ts, tm_ok n t) → i + ls_sz (tm_sz n) ts ≤ 60 → xe g cT ar aT r m I J → (∀ I' : Nat → Nat → Int, (∀ x j : Nat, ¬ (x = b + 7 ∧ i ≤ j ∧ j < i + ls_sz (tm_sz n) ts) → I' x j = I x j) → (ls_f (tf (fx g m) cT ar aT n) (tm_at n) e W (many - k) ts = none → ls_A (ft_G I' b (fx g m) n) (tm_sz n) i ts) → Q (some (.inl (oi (ls_f (tf (fx g m) cT ar aT n) (tm_at n) e W (many - k) ts)))) (n0, K, I', J, R)) → am_WP D (113, 6, [.inr (.inl r), .inr (.inl b), .inl x2, .inr (.inl a3), .inl (fr : Int), .inl (many : Int), .inl e, .inl (bif ts.isEmpty then -1 else (i : Int)), .inl (k : Int), am_o], [], (0, 0), n0, K, I, J, R) Q
end XFF
theorem tf_nn {cof : Int → Int} {cT ar aT : Nat → Int} {k : Int} : ∀ (n : Nat) (w : Int) (t : tm n), tm_ok n t → tf cof cT ar aT n w t = some k → 0 ≤ k := by
  have ls : ∀ (n : Nat), (∀ (w : Int) (t : tm n), tm_ok n t → tf cof cT ar aT n w t = some k → 0 ≤ k) → ∀ (ts : List (tm n)) (m : Nat) (W : Nat → Int) (e : Int), 0 ≤ e → (∀ t ∈ ts, tm_ok n t) → ls_f (tf cof cT ar aT n) (tm_at n) e W m ts = some k → 0 ≤ k := by
    intro n hT ts
    induction ts with
    | nil =>
      intro m W e he _ h
      cases m with
      | zero => exact absurd h (by simp [ls_f])
      | succ m =>
        have : some e = some k := h
        have := Option.some.inj this
        omega
    | cons t ts ih =>
      intro m W e he ho h
      cases m with
      | zero =>
        have h' : some (tm_at n t) = some k := h
        have h2 := Option.some.inj h'
        have h3 := ho t List.mem_cons_self
        cases n with
        | zero => exact h3.elim
        | succ n =>
          have h4 : tm_at (n + 1) t = (tm_l t).2.1 := rfl
          have := h3.1
          omega
      | succ m =>
        have h' : oe (tf cof cT ar aT n (W 0) t) (ls_f (tf cof cT ar aT n) (tm_at n) e (fun i => W (i + 1)) m ts) = some k := h
        rcases hc : tf cof cT ar aT n (W 0) t with _ | k'
        · rw [hc] at h'
          exact ih m _ e he (fun u hu => ho u (List.mem_cons_of_mem _ hu)) h'
        · rw [hc] at h'
          have : some k' = some k := h'
          have e2 := Option.some.inj this
          subst e2
          exact hT _ t (ho t List.mem_cons_self) hc
  intro n
  induction n with
  | zero => intro w t h; exact h.elim
  | succ n ih =>
    intro w t ho h
    unfold tf at h
    have ho' := ho
    obtain ⟨o1, o2, o3, o4⟩ := ho
    by_cases k4 : (tm_l t).1 = 4
    · rw [if_pos k4] at h
      by_cases w6 : w = 6
      · rw [if_pos w6] at h; exact absurd h (by simp)
      · rw [if_neg w6] at h
        have := Option.some.inj h
        omega
    · rw [if_neg k4] at h
      by_cases k56 : (tm_l t).1 = 5 ∨ (tm_l t).1 = 6
      · rw [if_pos k56] at h
        by_cases hc : cof (tm_l t).2.2.2.2.1 = -1 ∨ cT (cof (tm_l t).2.2.2.2.1).toNat ≠ w
        · rw [if_pos hc] at h
          have := Option.some.inj h
          omega
        · rw [if_neg hc] at h
          by_cases k5 : (tm_l t).1 = 5
          · rw [if_pos k5] at h
            by_cases ha : ar (cof (tm_l t).2.2.2.2.1).toNat = 0
            · rw [if_pos ha] at h; exact absurd h (by simp)
            · rw [if_neg ha] at h
              have := Option.some.inj h
              omega
          · rw [if_neg k5] at h
            have k6 : (tm_l t).1 = 6 := by omega
            refine ls n ih _ _ _ _ o3 ?_ h
            rcases o4 with q | q | q | q
            · omega
            · omega
            · omega
            · exact q.2.2
      · rw [if_neg k56] at h
        rcases hk : tm_k t with _ | ⟨u, us⟩
        · rw [hk] at h; exact absurd h (by simp)
        · rw [hk] at h
          refine ih w u ?_ h
          rcases o4 with q | q | q | q
          · rw [hk] at q; exact absurd q.2 (by simp)
          · omega
          · obtain ⟨_, v, e, hv⟩ := q
            rw [hk] at e
            have := (List.cons.inj e).1
            rw [this]; exact hv
          · omega
