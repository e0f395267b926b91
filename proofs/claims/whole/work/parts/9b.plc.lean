/-! PLACES, and values at them -/
def pq : Nat → Nat → Nat
  | 0, q => q
  | k + 1, q => pq k ((q - 1) / 4)
def un (p q : Nat) : Prop := ∃ k : Nat, pq k q = p
theorem pq_le : ∀ k q : Nat, pq k q ≤ q := by
  intro k
  induction k with
  | zero => intro q; exact Nat.le_refl _
  | succ k ih =>
    intro q
    have := ih ((q - 1) / 4)
    show pq k ((q - 1) / 4) ≤ q
    omega
theorem pq_add : ∀ (k j q : Nat), pq (k + j) q = pq k (pq j q) := by
  intro k j
  induction j with
  | zero => intro q; rfl
  | succ j ih => intro q; exact ih ((q - 1) / 4)
theorem un_refl {p : Nat} : un p p := ⟨0, rfl⟩
theorem un_child {p i q : Nat} (hi : i ≤ 3) (h : un (4 * p + 1 + i) q) : un p q := by
  obtain ⟨k, hk⟩ := h
  refine ⟨1 + k, ?_⟩
  rw [pq_add 1 k q, hk]
  show (4 * p + 1 + i - 1) / 4 = p
  omega
theorem un_sib {P p p' q : Nat} (h1 : 4 * P + 1 ≤ p ∧ p ≤ 4 * P + 4) (h2 : 4 * P + 1 ≤ p' ∧ p' ≤ 4 * P + 4) (hne : p ≠ p') (hp : un p q) (hp' : un p' q) : False := by
  have key : ∀ (a b x y : Nat), 4 * P + 1 ≤ x → x ≤ 4 * P + 4 → 4 * P + 1 ≤ y → x ≠ y → pq a q = x → pq (b + a) q = y → False := by
    intro a b x y hx1 hx2 hy1 hxy h1 h2
    rw [pq_add, h1] at h2
    cases b with
    | zero => exact hxy h2
    | succ b =>
      have h3 : pq b ((x - 1) / 4) = y := h2
      have := pq_le b ((x - 1) / 4)
      omega
  obtain ⟨k, hk⟩ := hp
  obtain ⟨j, hj⟩ := hp'
  rcases Nat.lt_or_ge k j with h | h
  · exact key k (j - k) p p' h1.1 h1.2 h2.1 hne hk (by rw [show j - k + k = j by omega]; exact hj)
  · exact key j (k - j) p' p h2.1 h2.2 h1.1 (Ne.symm hne) hj (by rw [show k - j + j = k by omega]; exact hk)
/-- the children of a place are not the place itself -/
theorem un_down {p i : Nat} : ¬ un (4 * p + 1 + i) p := by
  rintro ⟨k, hk⟩
  have := pq_le k p
  omega
section VS
variable (cof : Int → Int) (nwf : Int → Bool)
def ls_v {T : Type} (f : Nat → T → Prop) : Nat → List T → Prop
  | _, [] => True
  | p, t :: ts => f p t ∧ ls_v f (p + 1) ts
def vS (V : Nat → Int) : (n : Nat) → Nat → tm n → Prop
  | 0, _, _ => False
  | n + 1, p, t =>
    ((tm_l t).1 = 7 ∧ V p = -2) ∨ ((tm_l t).1 = 4 ∧ V p = 100 + (tm_l t).2.2.2.2.2) ∨
    (((tm_l t).1 = 5 ∨ (tm_l t).1 = 6) ∧ (nwf (cof (tm_l t).2.2.2.2.1) = true ∧ ls_v (vS V n) p (tm_k t) ∨ nwf (cof (tm_l t).2.2.2.2.1) = false ∧ V p = cof (tm_l t).2.2.2.2.1 ∧ ls_v (vS V n) (4 * p + 1) (tm_k t)))
end VS
/-- kids of a constructor: one of a new type has one, no constructor more than three -/
def kd_ok (cof : Int → Int) (nwf : Int → Bool) : (n : Nat) → tm n → Prop
  | 0, _ => False
  | n + 1, t => ((tm_l t).1 = 5 ∨ (tm_l t).1 = 6 → (tm_k t).length ≤ 3 ∧ (nwf (cof (tm_l t).2.2.2.2.1) = true → (tm_k t).length ≤ 1)) ∧ ∀ k ∈ tm_k t, kd_ok cof nwf n k
theorem vS_fr {cof : Int → Int} {nwf : Int → Bool} {V V' : Nat → Int} : ∀ (n p : Nat) (t : tm n), kd_ok cof nwf n t → (∀ q : Nat, un p q → V' q = V q) → vS cof nwf V n p t → vS cof nwf V' n p t := by
  have ls : ∀ n : Nat, (∀ (p : Nat) (t : tm n), kd_ok cof nwf n t → (∀ q : Nat, un p q → V' q = V q) → vS cof nwf V n p t → vS cof nwf V' n p t) → ∀ (ts : List (tm n)) (p : Nat), (∀ k ∈ ts, kd_ok cof nwf n k) → (∀ z q : Nat, z < ts.length → un (p + z) q → V' q = V q) → ls_v (vS cof nwf V n) p ts → ls_v (vS cof nwf V' n) p ts := by
    intro n h ts
    induction ts with
    | nil => intro p _ _ _; exact trivial
    | cons t ts ih =>
      intro p hk hf hv
      refine ⟨h p t (hk t List.mem_cons_self) (fun q hq => hf 0 q (by show 0 < ts.length + 1; omega) hq) hv.1, ih (p + 1) (fun k hk' => hk k (List.mem_cons_of_mem _ hk')) (fun z q hz hq => hf (z + 1) q (by show z + 1 < ts.length + 1; omega) ?_) hv.2⟩
      rw [show p + (z + 1) = p + 1 + z by omega]; exact hq
  intro n
  induction n with
  | zero => intro p t h _ _; exact h.elim
  | succ n ih =>
    intro p t hk hf hv
    rcases hv with ⟨h1, h2⟩ | ⟨h1, h2⟩ | ⟨h1, h2⟩
    · exact Or.inl ⟨h1, (hf p un_refl).trans h2⟩
    · exact Or.inr (Or.inl ⟨h1, (hf p un_refl).trans h2⟩)
    · obtain ⟨l3, l1⟩ := hk.1 h1
      refine Or.inr (Or.inr ⟨h1, ?_⟩)
      rcases h2 with ⟨g1, g2⟩ | ⟨g1, g2, g3⟩
      · refine Or.inl ⟨g1, ls n ih _ p hk.2 (fun z q hz hq => hf q ?_) g2⟩
        have := l1 g1
        have : z = 0 := by omega
        rw [this] at hq; exact hq
      · exact Or.inr ⟨g1, (hf p un_refl).trans g2, ls n ih _ (4 * p + 1) hk.2 (fun z q hz hq => hf q (un_child (by omega) hq)) g3⟩
theorem vSL_fr {cof : Int → Int} {nwf : Int → Bool} {V V' : Nat → Int} {n : Nat} : ∀ (ts : List (tm n)) (p : Nat), (∀ k ∈ ts, kd_ok cof nwf n k) → (∀ z q : Nat, z < ts.length → un (p + z) q → V' q = V q) → ls_v (vS cof nwf V n) p ts → ls_v (vS cof nwf V' n) p ts := by
  intro ts
  induction ts with
  | nil => intro p _ _ _; exact trivial
  | cons t ts ih =>
    intro p hk hf hv
    refine ⟨vS_fr n p t (hk t List.mem_cons_self) (fun q hq => hf 0 q (by show 0 < ts.length + 1; omega) hq) hv.1, ih (p + 1) (fun k hk' => hk k (List.mem_cons_of_mem _ hk')) (fun z q hz hq => hf (z + 1) q (by show z + 1 < ts.length + 1; omega) ?_) hv.2⟩
    rw [show p + (z + 1) = p + 1 + z by omega]; exact hq
/-- a term without fault has kids that fit -/
theorem tf_kd {F : Nat → Nat → Int} {aT W : Nat → Int} {r s N m wd : Nat} {g : Nat → Int} (hE : rE F aT W r s N m wd) : ∀ (n : Nat) (w : Int) (t : tm n), tm_ok n t → tf (fx g m) (F (r + 5)) (F (r + 6)) aT n w t = none → kd_ok (fx g m) (nwc F r) n t := by
  have ls : ∀ n : Nat, (∀ (w : Int) (t : tm n), tm_ok n t → tf (fx g m) (F (r + 5)) (F (r + 6)) aT n w t = none → kd_ok (fx g m) (nwc F r) n t) → ∀ (ts : List (tm n)) (e : Int) (V : Nat → Int) (k : Nat), (∀ t ∈ ts, tm_ok n t) → ls_f (tf (fx g m) (F (r + 5)) (F (r + 6)) aT n) (tm_at n) e V k ts = none → ts.length = k ∧ ∀ t ∈ ts, kd_ok (fx g m) (nwc F r) n t := by
    intro n h ts
    induction ts with
    | nil =>
      intro e V k _ hf
      cases k with
      | zero => exact ⟨rfl, fun t ht => absurd ht (by simp)⟩
      | succ k => exact absurd hf (by simp [ls_f])
    | cons t ts ih =>
      intro e V k ho hf
      cases k with
      | zero => exact absurd hf (by simp [ls_f])
      | succ k =>
        have hf' : oe (tf (fx g m) (F (r + 5)) (F (r + 6)) aT n (V 0) t) (ls_f (tf (fx g m) (F (r + 5)) (F (r + 6)) aT n) (tm_at n) e (fun i => V (i + 1)) k ts) = none := hf
        obtain ⟨h1, h2⟩ := oe_none hf'
        obtain ⟨i1, i2⟩ := ih e _ k (fun u hu => ho u (List.mem_cons_of_mem _ hu)) h2
        refine ⟨by show ts.length + 1 = k + 1; omega, fun u hu => ?_⟩
        rcases List.mem_cons.mp hu with e1 | e1
        · rw [e1]; exact h _ t (ho t List.mem_cons_self) h1
        · exact i2 u e1
  intro n
  induction n with
  | zero => intro w t h; exact h.elim
  | succ n ih =>
    intro w t ho hf
    obtain ⟨o1, o2, o3, o4⟩ := ho
    unfold tf at hf
    rcases o4 with ⟨q1, q2⟩ | ⟨q1, q2, -⟩ | ⟨q1, k, q2, q3⟩ | ⟨q1, q2, q3⟩
    · refine ⟨fun _ => ?_, fun k hk => ?_⟩
      · rw [q2]; exact ⟨by simp, fun _ => by simp⟩
      · rw [q2] at hk; exact absurd hk (by simp)
    · refine ⟨fun _ => ?_, fun k hk => ?_⟩
      · rw [q2]; exact ⟨by simp, fun _ => by simp⟩
      · rw [q2] at hk; exact absurd hk (by simp)
    · rw [if_neg (by omega), if_neg (by omega), q2] at hf
      refine ⟨fun h => by omega, fun k' hk => ?_⟩
      rw [q2] at hk
      have : k' = k := by simpa using hk
      rw [this]; exact ih w k q3 hf
    · rw [if_neg (by omega), if_pos (Or.inr q1)] at hf
      by_cases hc : fx g m (tm_l t).2.2.2.2.1 = -1 ∨ F (r + 5) (fx g m (tm_l t).2.2.2.2.1).toNat ≠ w
      · rw [if_pos hc] at hf; exact absurd hf (by simp)
      · rw [if_neg hc, if_neg (by omega)] at hf
        obtain ⟨l1, l2⟩ := ls n ih _ _ _ _ q3 hf
        refine ⟨fun _ => ?_, l2⟩
        rcases fx_cases g (tm_l t).2.2.2.2.1 m with ⟨x1, -⟩ | ⟨c', hc', x1, -, -⟩
        · exact absurd (Or.inl x1) hc
        · rw [x1, Int.toNat_natCast] at l1
          obtain ⟨⟨T, hT, hcT, hnw⟩, ha0, ha3, -⟩ := hE.2.2.2.2.2.1 c' hc'
          refine ⟨by omega, fun hn => ?_⟩
          rw [x1] at hn
          unfold nwc at hn
          rw [Int.toNat_natCast, hcT, Int.toNat_natCast] at hn
          have := hnw (by simpa using hn)
          omega
