/-! TREES: pats and values, by how many may still stand one in another -/
abbrev lb : Type := Int × Int × Int × Int × Int × Int
def tm : Nat → Type
  | 0 => Empty
  | n + 1 => lb × List (tm n)
def tm_l {n : Nat} (t : tm (n + 1)) : lb := Prod.fst (α := lb) (β := List (tm n)) t
def tm_k {n : Nat} (t : tm (n + 1)) : List (tm n) := Prod.snd (α := lb) (β := List (tm n)) t
def tm_m {n : Nat} (l : lb) (ks : List (tm n)) : tm (n + 1) := ((l, ks) : lb × List (tm n))
theorem tm_lm {n : Nat} {l : lb} {ks : List (tm n)} : tm_l (tm_m l ks) = l := rfl
theorem tm_km {n : Nat} {l : lb} {ks : List (tm n)} : tm_k (tm_m l ks) = ks := rfl
theorem tm_eta {n : Nat} (t : tm (n + 1)) : tm_m (tm_l t) (tm_k t) = t := rfl
def ls_sz {T : Type} (f : T → Nat) : List T → Nat
  | [] => 0
  | t :: ts => f t + ls_sz f ts
def ls_H {T : Type} (H : Nat → T → Prop) (f : T → Nat) (nx : Nat → Int) : Nat → List T → Prop
  | _, [] => True
  | i, t :: ts => H i t ∧ nx i = (bif ts.isEmpty then -1 else ((i + f t : Nat) : Int)) ∧ ls_H H f nx (i + f t) ts
def ls_sp {T : Type} (S : Nat → T → Nat → Prop) : Nat → List T → Nat → Prop
  | i, [], j => i = j
  | i, t :: ts, j => ∃ m : Nat, S i t m ∧ ls_sp S m ts j
def tm_sz : (n : Nat) → tm n → Nat
  | 0, _ => 0
  | n + 1, t => 1 + ls_sz (tm_sz n) (tm_k t)
/-- how a tree lies in the class's rows, from index i on, in its own order -/
def ft_H (I J : Nat → Nat → Int) (b : Nat) : (n : Nat) → Nat → tm n → Prop
  | 0, _, _ => False
  | n + 1, i, t => I (b + 1) i = (tm_l t).1 ∧ I (b + 2) i = (tm_l t).2.1 ∧ I (b + 3) i = (tm_l t).2.2.1 ∧ I (b + 4) i = (tm_l t).2.2.2.1 ∧ J (b + 5) i = (tm_l t).2.2.2.2.1 ∧ I (b + 6) i = (tm_l t).2.2.2.2.2 ∧ I (b + 8) i = (bif (tm_k t).isEmpty then -1 else ((i + 1 : Nat) : Int)) ∧ ls_H (ft_H I J b n) (tm_sz n) (I (b + 9)) (i + 1) (tm_k t)
/-- how a tree stands among the tokens -/
def ft_sp (kd pl nu nm : Nat → Int) (v : Bool) : (n : Nat) → Nat → tm n → Nat → Prop
  | 0, _, _, _ => False
  | n + 1, i, t, j =>
    kd i = 5 ∧ t = tm_m (4, pl i, pl i, pl i, nm i, nu i) [] ∧ j = i + 1 ∨
    kd i = 3 ∧ t = tm_m (5, pl i, pl i, pl i, nm i, nu i) [] ∧ j = i + 1 ∨
    (kd i = 40 ∧ kd (i + 1) = 3 ∧ ∃ (ks : List (tm n)) (m : Nat), ks ≠ [] ∧ ls_sp (ft_sp kd pl nu nm v n) (i + 2) ks m ∧ kd m = 41 ∧ t = tm_m (6, pl i, pl (i + 1), pl m, nm (i + 1), nu i) ks ∧ j = m + 1) ∨
    v = true ∧ kd i = 63 ∧ t = tm_m (7, pl i, pl i, pl i, nm i, nu i) [] ∧ j = i + 1 ∨
    (v = false ∧ kd i = 126 ∧ ∃ t' : tm n, ft_sp kd pl nu nm v n (i + 1) t' j ∧ t = tm_m (1, pl i, pl i, pl i, nm i, nu i) [t']) ∨
    (v = false ∧ kd i = 33 ∧ ∃ t' : tm n, ft_sp kd pl nu nm v n (i + 1) t' j ∧ t = tm_m (2, pl i, pl i, pl i, nm i, nu i) [t']) ∨
    (v = false ∧ kd i = 4 ∧ kd (i + 1) = 64 ∧ ∃ t' : tm n, ft_sp kd pl nu nm v n (i + 2) t' j ∧ t = tm_m (3, pl i, pl i, pl i, nm i, nu i) [t']) ∨
    v = false ∧ kd i = 4 ∧ kd (i + 1) ≠ 64 ∧ t = tm_m (0, pl i, pl i, pl i, nm i, nu i) [] ∧ j = i + 1 ∨
    v = false ∧ kd i = 95 ∧ t = tm_m (0, pl i, pl i, pl i, nm i, nu i) [] ∧ j = i + 1
def ft_le (x : Int) : Prop := x = 41 ∨ x = 59 ∨ x = 9 ∨ x = 0
def ft_bg (v : Bool) (x : Int) : Prop := x = 5 ∨ x = 3 ∨ x = 40 ∨ v = true ∧ x = 63 ∨ v = false ∧ (x = 126 ∨ x = 33 ∨ x = 4 ∨ x = 95)
/-- a term at i, so many read ahead of it, cannot be read: token k cannot stand there -/
def ft_bd (kd pl nu nm : Nat → Int) (v : Bool) : Nat → Nat → Nat → Nat → Prop
  | 0, i, _, k => k = i
  | n + 1, i, c, k =>
    (60 ≤ c ∨ ¬ ft_bg v (kd i)) ∧ k = i ∨
    c < 60 ∧ (v = false ∧ (kd i = 126 ∨ kd i = 33) ∧ ft_bd kd pl nu nm v n (i + 1) (c + 1) k ∨
      v = false ∧ kd i = 4 ∧ kd (i + 1) = 64 ∧ ft_bd kd pl nu nm v n (i + 2) (c + 1) k ∨
      kd i = 40 ∧ kd (i + 1) ≠ 3 ∧ k = i + 1 ∨
      (kd i = 40 ∧ kd (i + 1) = 3 ∧ ∃ (ks : List (tm n)) (m : Nat), ls_sp (ft_sp kd pl nu nm v n) (i + 2) ks m ∧ c + 1 + ls_sz (tm_sz n) ks ≤ 60 ∧ (ks ≠ [] ∧ ft_le (kd m) ∧ kd m ≠ 41 ∧ k = m ∨ (ks ≠ [] → ¬ ft_le (kd m)) ∧ ft_bd kd pl nu nm v n m (c + 1 + ls_sz (tm_sz n) ks) k)))
/-- a list at i cannot be read -/
def ft_bl (kd pl nu nm : Nat → Int) (v : Bool) (n i c k : Nat) : Prop := ∃ (ks : List (tm n)) (m : Nat), ls_sp (ft_sp kd pl nu nm v n) i ks m ∧ c + ls_sz (tm_sz n) ks ≤ 60 ∧ (ks ≠ [] → ¬ ft_le (kd m)) ∧ ft_bd kd pl nu nm v n m (c + ls_sz (tm_sz n) ks) k
theorem ls_sz_app {T : Type} {f : T → Nat} : ∀ (a c : List T), ls_sz f (a ++ c) = ls_sz f a + ls_sz f c := by
  intro a c
  induction a with
  | nil => simp [ls_sz]
  | cons t a ih => simp [ls_sz, ih]; omega
theorem ls_sp_app {T : Type} {S : Nat → T → Nat → Prop} : ∀ (a : List T) (t : T) (i m j : Nat), ls_sp S i a m → S m t j → ls_sp S i (a ++ [t]) j := by
  intro a
  induction a with
  | nil => intro t i m j h1 h2; have h1 : i = m := h1; subst h1; exact ⟨j, h2, rfl⟩
  | cons x a ih =>
    intro t i m j h1 h2
    obtain ⟨m1, g1, g2⟩ := h1
    exact ⟨m1, g1, ih t m1 m j g2 h2⟩
theorem ls_H_frame {T : Type} {H H' : Nat → T → Prop} {f : T → Nat} {nx nx' : Nat → Int} (P : Nat → Nat → Prop) (hP : ∀ i i' e e', P i e → i ≤ i' → e' ≤ e → P i' e') : ∀ (ts : List T) (i : Nat), ls_H H f nx i ts → P i (i + ls_sz f ts) → (∀ t ∈ ts, 0 < f t) → (∀ t ∈ ts, ∀ i : Nat, P i (i + f t) → H i t → H' i t) → (∀ i : Nat, P i (i + 1) → nx' i = nx i) → ls_H H' f nx' i ts := by
  intro ts
  induction ts with
  | nil => intro i _ _ _ _ _; exact trivial
  | cons t ts ih =>
    intro i h hp hpos hH hn
    have hp : P i (i + (f t + ls_sz f ts)) := hp
    have p0 := hpos t List.mem_cons_self
    refine ⟨hH t List.mem_cons_self i (hP i i _ _ hp (Nat.le_refl _) (by omega)) h.1, ?_, ?_⟩
    · rw [hn i (hP i i _ _ hp (Nat.le_refl _) (by omega))]; exact h.2.1
    · refine ih (i + f t) h.2.2 (hP i (i + f t) _ _ hp (by omega) (by omega)) (fun u hu => hpos u (List.mem_cons_of_mem _ hu)) (fun u hu => hH u (List.mem_cons_of_mem _ hu)) hn
theorem tm_sz_pos : ∀ (n : Nat) (t : tm n), 0 < tm_sz n t := by
  intro n t
  cases n with
  | zero => exact (t : Empty).elim
  | succ n => show 0 < 1 + _; omega
theorem ft_H_frame {I J I' J' : Nat → Nat → Int} {b : Nat} : ∀ (n i : Nat) (t : tm n), ft_H I J b n i t → (∀ x j : Nat, b + 1 ≤ x → x ≤ b + 9 → i ≤ j → j < i + tm_sz n t → (x = b + 9 → j ≠ i) → I' x j = I x j) → (∀ j : Nat, i ≤ j → j < i + tm_sz n t → J' (b + 5) j = J (b + 5) j) → ft_H I' J' b n i t := by
  intro n
  induction n with
  | zero => intro i t h _ _; exact h
  | succ n ih =>
    intro i t h hI hJ
    have es : tm_sz (n + 1) t = 1 + ls_sz (tm_sz n) (tm_k t) := rfl
    rw [es] at hI hJ
    obtain ⟨h1, h2, h3, h4, h5, h6, h7, h8⟩ := h
    refine ⟨?_, ?_, ?_, ?_, ?_, ?_, ?_, ?_⟩
    · rw [hI (b + 1) i (by omega) (by omega) (by omega) (by omega) (by omega)]; exact h1
    · rw [hI (b + 2) i (by omega) (by omega) (by omega) (by omega) (by omega)]; exact h2
    · rw [hI (b + 3) i (by omega) (by omega) (by omega) (by omega) (by omega)]; exact h3
    · rw [hI (b + 4) i (by omega) (by omega) (by omega) (by omega) (by omega)]; exact h4
    · rw [hJ i (by omega) (by omega)]; exact h5
    · rw [hI (b + 6) i (by omega) (by omega) (by omega) (by omega) (by omega)]; exact h6
    · rw [hI (b + 8) i (by omega) (by omega) (by omega) (by omega) (by omega)]; exact h7
    · refine ls_H_frame (fun u e => i + 1 ≤ u ∧ e ≤ i + (1 + ls_sz (tm_sz n) (tm_k t))) (fun u u' e e' h a c => ⟨by omega, by omega⟩) _ _ h8 ⟨by omega, by omega⟩ (fun u _ => tm_sz_pos n u) (fun u _ k hk hu => ?_) (fun k hk => ?_)
      · exact ih k u hu (fun x j a1 a2 a3 a4 a5 => hI x j a1 a2 (by omega) (by omega) (by omega)) (fun j a3 a4 => hJ j (by omega) (by omega))
      · exact hI (b + 9) k (by omega) (by omega) (by omega) (by omega) (by omega)
theorem ft_HL_frame {I J I' J' : Nat → Nat → Int} {b n i : Nat} {ts : List (tm n)} (h : ls_H (ft_H I J b n) (tm_sz n) (I (b + 9)) i ts) (hI : ∀ x j : Nat, b + 1 ≤ x → x ≤ b + 9 → i ≤ j → j < i + ls_sz (tm_sz n) ts → I' x j = I x j) (hJ : ∀ j : Nat, i ≤ j → j < i + ls_sz (tm_sz n) ts → J' (b + 5) j = J (b + 5) j) : ls_H (ft_H I' J' b n) (tm_sz n) (I' (b + 9)) i ts := by
  refine ls_H_frame (fun u e => i ≤ u ∧ e ≤ i + ls_sz (tm_sz n) ts) (fun u u' e e' h a c => ⟨by omega, by omega⟩) _ _ h ⟨by omega, by omega⟩ (fun u _ => tm_sz_pos n u) (fun u _ k hk hu => ?_) (fun k hk => ?_)
  · exact ft_H_frame n k u hu (fun x j a1 a2 a3 a4 a5 => hI x j a1 a2 (by omega) (by omega)) (fun j a3 a4 => hJ j (by omega) (by omega))
  · exact hI (b + 9) k (by omega) (by omega) (by omega) (by omega)
/-- one more term behind the last one of a list -/
theorem ft_HL_app {I J I' : Nat → Nat → Int} {b n : Nat} {u t : tm n} {e : Nat} : ∀ (ts : List (tm n)) (i : Nat), ls_H (ft_H I J b n) (tm_sz n) (I (b + 9)) i (ts ++ [u]) → e = i + ls_sz (tm_sz n) (ts ++ [u]) → ft_H I J b n e t → I (b + 9) e = -1 → (∀ x j : Nat, ¬ (x = b + 9 ∧ j = i + ls_sz (tm_sz n) ts) → I' x j = I x j) → I' (b + 9) (i + ls_sz (tm_sz n) ts) = (e : Int) → ls_H (ft_H I' J b n) (tm_sz n) (I' (b + 9)) i (ts ++ [u] ++ [t]) := by
  intro ts
  induction ts with
  | nil =>
    intro i h he ht hn hI hx
    have h : ft_H I J b n i u ∧ I (b + 9) i = -1 ∧ True := h
    have pu := tm_sz_pos n u
    have he : e = i + tm_sz n u := by simpa [ls_sz] using he
    have hx : I' (b + 9) i = (e : Int) := by simpa [ls_sz] using hx
    have hI : ∀ x j : Nat, ¬ (x = b + 9 ∧ j = i) → I' x j = I x j := by simpa [ls_sz] using hI
    refine ⟨ft_H_frame n i u h.1 (fun x j _ _ _ _ a5 => hI x j (fun q => a5 q.1 q.2)) (fun _ _ _ => rfl), ?_, ?_⟩
    · rw [hx, he]; rfl
    · rw [← he]
      refine ⟨ft_H_frame n e t ht (fun x j _ _ a3 _ a5 => hI x j (fun q => by omega)) (fun _ _ _ => rfl), ?_, trivial⟩
      rw [hI (b + 9) e (by omega), hn]; rfl
  | cons y ts ih =>
    intro i h he ht hn hI hx
    obtain ⟨h1, h2, h3⟩ := h
    have py := tm_sz_pos n y
    have he : e = i + (tm_sz n y + ls_sz (tm_sz n) (ts ++ [u])) := he
    have hx : I' (b + 9) (i + (tm_sz n y + ls_sz (tm_sz n) ts)) = (e : Int) := hx
    have hI : ∀ x j : Nat, ¬ (x = b + 9 ∧ j = i + (tm_sz n y + ls_sz (tm_sz n) ts)) → I' x j = I x j := hI
    have es := ls_sz_app (f := tm_sz n) ts [u]
    have pu := tm_sz_pos n u
    have e1 : ls_sz (tm_sz n) [u] = tm_sz n u := by simp [ls_sz]
    refine ⟨ft_H_frame n i y h1 (fun x j _ _ _ a4 a5 => hI x j (fun q => by omega)) (fun _ _ _ => rfl), ?_, ?_⟩
    · rw [hI (b + 9) i (by omega), h2]
      have a1 : (ts ++ [u]).isEmpty = false := by cases ts <;> rfl
      have a2 : (ts ++ [u] ++ [t]).isEmpty = false := by cases ts <;> rfl
      show (bif (ts ++ [u]).isEmpty then _ else _) = (bif (ts ++ [u] ++ [t]).isEmpty then _ else _)
      rw [a1, a2]
    · refine ih (i + tm_sz n y) h3 (by omega) ht hn (fun x j q => hI x j (fun r => q ⟨r.1, by omega⟩)) ?_
      rw [Nat.add_assoc]; exact hx
