/-! THE EXAMPLE: no deeper than the pats, and no longer than the line -/
/-- the places of a pat's terms -/
def pls (cof : Int → Int) (nwf : Int → Bool) : (n : Nat) → Nat → tm n → List (Nat × Int)
  | 0, _, _ => []
  | n + 1, p, t => (p, 0) :: (if (tm_l t).1 = 2 ∨ (tm_l t).1 = 3 then ls_al (pls cof nwf n) p (tm_k t)
    else if (tm_l t).1 = 5 ∨ (tm_l t).1 = 6 then (if nwf (cof (tm_l t).2.2.2.2.1) = true then ls_al (pls cof nwf n) p (tm_k t) else ls_al (pls cof nwf n) (4 * p + 1) (tm_k t))
    else [])
theorem pls_u {cof : Int → Int} {nwf : Int → Bool} {n p : Nat} {t : tm (n + 1)} : pls cof nwf (n + 1) p t = (p, 0) :: (if (tm_l t).1 = 2 ∨ (tm_l t).1 = 3 then ls_al (pls cof nwf n) p (tm_k t)
    else if (tm_l t).1 = 5 ∨ (tm_l t).1 = 6 then (if nwf (cof (tm_l t).2.2.2.2.1) = true then ls_al (pls cof nwf n) p (tm_k t) else ls_al (pls cof nwf n) (4 * p + 1) (tm_k t))
    else []) := rfl
theorem pls_len {cof : Int → Int} {nwf : Int → Bool} : ∀ (n p : Nat) (t : tm n), (pls cof nwf n p t).length ≤ tm_sz n t := by
  have ls : ∀ n : Nat, (∀ (p : Nat) (t : tm n), (pls cof nwf n p t).length ≤ tm_sz n t) → ∀ (ts : List (tm n)) (p : Nat), (ls_al (pls cof nwf n) p ts).length ≤ ls_sz (tm_sz n) ts := by
    intro n h ts
    induction ts with
    | nil => intro p; exact Nat.le_refl _
    | cons t ts ih =>
      intro p
      show (pls cof nwf n p t ++ ls_al (pls cof nwf n) (p + 1) ts).length ≤ tm_sz n t + ls_sz (tm_sz n) ts
      rw [List.length_append]
      have := h p t
      have := ih (p + 1)
      omega
  intro n
  induction n with
  | zero => intro p t; exact Nat.zero_le _
  | succ n ih =>
    intro p t
    have e : tm_sz (n + 1) t = 1 + ls_sz (tm_sz n) (tm_k t) := rfl
    unfold pls
    rw [List.length_cons, e]
    have l1 := ls n ih (tm_k t) p
    have l2 := ls n ih (tm_k t) (4 * p + 1)
    split
    · omega
    · split
      · split
        · omega
        · omega
      · show 0 + 1 ≤ _; omega
theorem pls_ls_len {cof : Int → Int} {nwf : Int → Bool} {n : Nat} : ∀ (ts : List (tm n)) (p : Nat), (ls_al (pls cof nwf n) p ts).length ≤ ls_sz (tm_sz n) ts := by
  intro ts
  induction ts with
  | nil => intro p; exact Nat.le_refl _
  | cons t ts ih =>
    intro p
    show (pls cof nwf n p t ++ ls_al (pls cof nwf n) (p + 1) ts).length ≤ tm_sz n t + ls_sz (tm_sz n) ts
    rw [List.length_append]
    have := pls_len (cof := cof) (nwf := nwf) n p t
    have := ih (p + 1)
    omega
section DEP
variable {F : Nat → Nat → Int} {aT W : Nat → Int} {r s N m wd : Nat} {g : Nat → Int}
/-- a constructor's pat that has its type -/
theorem tcon {n : Nat} {t : tm (n + 1)} {w : Int} (hE : rE F aT W r s N m wd) (ho : tm_ok (n + 1) t) (hf : tf (fx g m) (F (r + 5)) (F (r + 6)) aT (n + 1) w t = none) (hk : (tm_l t).1 = 5 ∨ (tm_l t).1 = 6) : ∃ c T : Nat, c < m ∧ T < N ∧ fx g m (tm_l t).2.2.2.2.1 = (c : Int) ∧ F (r + 5) c = (T : Int) ∧ w = (T : Int) ∧ tyl (tf (fx g m) (F (r + 5)) (F (r + 6)) aT n) (tm_k t) (fun i => aT (3 * c + i)) ∧ ((tm_k t).length : Int) = F (r + 6) c ∧ (∀ k ∈ tm_k t, tm_ok n k) ∧ (F (r + 2) T = 1 → F (r + 6) c = 1) := by
  unfold tf at hf
  rw [if_neg (by omega), if_pos hk] at hf
  by_cases hc : fx g m (tm_l t).2.2.2.2.1 = -1 ∨ F (r + 5) (fx g m (tm_l t).2.2.2.2.1).toNat ≠ w
  · rw [if_pos hc] at hf; exact absurd hf (by simp)
  · rw [if_neg hc] at hf
    have c1 : fx g m (tm_l t).2.2.2.2.1 ≠ -1 := fun h => hc (Or.inl h)
    have c2 : F (r + 5) (fx g m (tm_l t).2.2.2.2.1).toNat = w := by
      by_cases e : F (r + 5) (fx g m (tm_l t).2.2.2.2.1).toNat = w
      · exact e
      · exact absurd (Or.inr e) hc
    have frg := fx_rg g m (tm_l t).2.2.2.2.1
    obtain ⟨c, hcc⟩ : ∃ c : Nat, fx g m (tm_l t).2.2.2.2.1 = (c : Int) := ⟨(fx g m (tm_l t).2.2.2.2.1).toNat, by omega⟩
    rw [hcc] at hf c2
    have c2 : F (r + 5) c = w := c2
    have hcm : c < m := by omega
    obtain ⟨⟨T, hT, hcT, hnw⟩, ar0, ar3, -⟩ := hE.2.2.2.2.2.1 c hcm
    refine ⟨c, T, hcm, hT, hcc, hcT, by rw [← c2, hcT], ?_⟩
    obtain ⟨o1, o2, o3, o4⟩ := ho
    by_cases k5 : (tm_l t).1 = 5
    · rw [if_pos k5] at hf
      have hr0 : F (r + 6) c = 0 := by
        by_cases e : F (r + 6) c = 0
        · exact e
        · have hf : (if F (r + 6) c = 0 then none else some (tm_l t).2.2.1) = none := hf
          rw [if_neg e] at hf; exact absurd hf (by simp)
      have k0 : tm_k t = [] := by
        rcases o4 with ⟨q1, q2⟩ | ⟨q1, q2, -⟩ | ⟨q1, k, q2, q3⟩ | ⟨q1, q2, q3⟩
        · exact q2
        · exact q2
        · omega
        · omega
      rw [k0]
      exact ⟨trivial, by rw [hr0]; rfl, fun k hk => absurd hk (by simp), hnw⟩
    · rw [if_neg k5] at hf
      have hf : ls_f (tf (fx g m) (F (r + 5)) (F (r + 6)) aT n) (tm_at n) (tm_l t).2.2.2.1 (fun i => aT (3 * c + i)) (F (r + 6) c).toNat (tm_k t) = none := hf
      obtain ⟨y3, y4⟩ := tyl_of _ _ _ hf
      refine ⟨y3, by omega, ?_, hnw⟩
      rcases o4 with ⟨q1, q2⟩ | ⟨q1, q2, -⟩ | ⟨q1, k, q2, q3⟩ | ⟨q1, q2, q3⟩
      · omega
      · omega
      · omega
      · exact q3
/-- without what stands around it -/
theorem strip : ∀ (n p : Nat) (t : tm n) (w : Int), tm_ok n t → tf (fx g m) (F (r + 5)) (F (r + 6)) aT n w t = none → akf (al (fx g m) (nwc F r) n p t) ≠ [] → ∃ (n2 : Nat) (t2 : tm (n2 + 1)), n2 + 1 ≤ n ∧ ((tm_l t2).1 = 4 ∨ (tm_l t2).1 = 5 ∨ (tm_l t2).1 = 6) ∧ tm_ok (n2 + 1) t2 ∧ tf (fx g m) (F (r + 5)) (F (r + 6)) aT (n2 + 1) w t2 = none ∧ akf (al (fx g m) (nwc F r) (n2 + 1) p t2) = akf (al (fx g m) (nwc F r) n p t) ∧ (pls (fx g m) (nwc F r) (n2 + 1) p t2).Sublist (pls (fx g m) (nwc F r) n p t) := by
  intro n
  induction n with
  | zero => intro p t; exact t.elim
  | succ n ih =>
    intro p t w ho hf hne
    by_cases hk : (tm_l t).1 = 4 ∨ (tm_l t).1 = 5 ∨ (tm_l t).1 = 6
    · exact ⟨n, t, Nat.le_refl _, hk, ho, hf, rfl, List.Sublist.refl _⟩
    · have ho0 := ho
      obtain ⟨o1, o2, o3, o4⟩ := ho
      have hf0 := hf
      unfold tf at hf
      rw [if_neg (by omega), if_neg (by omega)] at hf
      rcases o4 with ⟨q1, q2⟩ | ⟨q1, q2, -⟩ | ⟨q1, k, q2, q3⟩ | ⟨q1, q2, q3⟩
      · exact absurd (by rw [al_u, if_neg (by omega), if_neg (by omega), if_neg (by omega), if_neg (by omega)]; rfl) hne
      · omega
      · rw [q2] at hf
        rcases q1 with q1 | q1 | q1
        · exact absurd (by rw [al_u, if_neg (by omega), if_neg (by omega), if_neg (by omega), if_neg (by omega)]; rfl) hne
        · have eal : akf (al (fx g m) (nwc F r) (n + 1) p t) = akf (al (fx g m) (nwc F r) n p k) := by
            rw [al_u, if_pos q1, akf_look rfl, q2]
            show akf (al _ _ n p k ++ []) = _
            rw [List.append_nil]
          rw [eal] at hne ⊢
          obtain ⟨n2, t2, a1, a2, a3, a4, a5, a6⟩ := ih p k w q3 hf hne
          refine ⟨n2, t2, by omega, a2, a3, a4, a5, a6.trans ?_⟩
          rw [pls_u, if_pos (Or.inl q1), q2]
          show List.Sublist _ ((p, 0) :: (pls _ _ n p k ++ []))
          rw [List.append_nil]
          exact List.sublist_cons_self _ _
        · have eal : akf (al (fx g m) (nwc F r) (n + 1) p t) = akf (al (fx g m) (nwc F r) n p k) := by
            rw [al_u, if_neg (by omega), if_pos q1, q2]
            show akf (al _ _ n p k ++ []) = _
            rw [List.append_nil]
          rw [eal] at hne ⊢
          obtain ⟨n2, t2, a1, a2, a3, a4, a5, a6⟩ := ih p k w q3 hf hne
          refine ⟨n2, t2, by omega, a2, a3, a4, a5, a6.trans ?_⟩
          rw [pls_u, if_pos (Or.inr q1), q2]
          show List.Sublist _ ((p, 0) :: (pls _ _ n p k ++ []))
          rw [List.append_nil]
          exact List.sublist_cons_self _ _
      · omega
/-- an ask among kids is one kid's -/
theorem kid_of {n : Nat} : ∀ (ts : List (tm n)) (base : Nat) (Wt : Nat → Int) (x : Nat × Int), (∀ k ∈ ts, tm_ok n k) → tyl (tf (fx g m) (F (r + 5)) (F (r + 6)) aT n) ts Wt → x ∈ akf (ls_al (al (fx g m) (nwc F r) n) base ts) → ∃ (i : Nat) (k : tm n), i < ts.length ∧ tm_ok n k ∧ tf (fx g m) (F (r + 5)) (F (r + 6)) aT n (Wt i) k = none ∧ x ∈ akf (al (fx g m) (nwc F r) n (base + i) k) ∧ (∀ y ∈ akf (al (fx g m) (nwc F r) n (base + i) k), y ∈ akf (ls_al (al (fx g m) (nwc F r) n) base ts)) ∧ (pls (fx g m) (nwc F r) n (base + i) k).Sublist (ls_al (pls (fx g m) (nwc F r) n) base ts) := by
  intro ts
  induction ts with
  | nil => intro base Wt x _ _ h; exact absurd h (by simp [akf, ls_al])
  | cons t ts ih =>
    intro base Wt x ho ht h
    have eal : akf (ls_al (al (fx g m) (nwc F r) n) base (t :: ts)) = akf (al (fx g m) (nwc F r) n base t) ++ akf (ls_al (al (fx g m) (nwc F r) n) (base + 1) ts) := by
      rw [← akf_app]; rfl
    have epl : ls_al (pls (fx g m) (nwc F r) n) base (t :: ts) = pls (fx g m) (nwc F r) n base t ++ ls_al (pls (fx g m) (nwc F r) n) (base + 1) ts := rfl
    rw [eal] at h ⊢
    rw [epl]
    rcases List.mem_append.mp h with q | q
    · exact ⟨0, t, Nat.succ_pos _, ho t List.mem_cons_self, ht.1, q, fun y hy => List.mem_append_left _ hy, List.sublist_append_left _ _⟩
    · obtain ⟨i, k, a1, a2, a3, a4, a5, a6⟩ := ih (base + 1) (fun i => Wt (i + 1)) x (fun k hk => ho k (List.mem_cons_of_mem _ hk)) ht.2 q
      rw [show base + 1 + i = base + (i + 1) by omega] at a4 a5 a6
      exact ⟨i + 1, k, Nat.succ_lt_succ a1, a2, a3, a4, fun y hy => List.mem_append_right _ (a5 y hy), a6.trans (List.sublist_append_right _ _)⟩
end DEP
/-- at or under a place -/
noncomputable def unb (p : Nat) (x : Nat × Int) : Bool := @decide (un p x.1) (Classical.propDecidable _)
theorem unb_t {p : Nat} {x : Nat × Int} : unb p x = true ↔ un p x.1 := by unfold unb; exact @decide_eq_true_iff _ (Classical.propDecidable _)
def atb (p : Nat) (x : Nat × Int) : Bool := decide (x.1 = p)
theorem cnt_kids {p : Nat} : ∀ PL : List (Nat × Int), PL.countP (atb p) + (PL.countP (unb (4 * p + 1)) + (PL.countP (unb (4 * p + 1 + 1)) + PL.countP (unb (4 * p + 1 + 2)))) ≤ PL.countP (unb p) := by
  intro PL
  induction PL with
  | nil => exact Nat.le_refl _
  | cons x PL ih =>
    have sib : ∀ i j : Nat, i ≤ 2 → j ≤ 2 → i ≠ j → un (4 * p + 1 + i) x.1 → un (4 * p + 1 + j) x.1 → False := fun i j hi hj hne h1 h2 => un_sib (P := p) ⟨by omega, by omega⟩ ⟨by omega, by omega⟩ (by omega) h1 h2
    have up : ∀ i : Nat, i ≤ 2 → un (4 * p + 1 + i) x.1 → un p x.1 := fun i hi h => un_child (by omega) h
    have dn : ∀ i : Nat, x.1 = p → ¬ un (4 * p + 1 + i) x.1 := fun i e h => by rw [e] at h; exact un_down h
    have c : ∀ f : Nat × Int → Bool, (x :: PL).countP f = PL.countP f + (if f x = true then 1 else 0) := fun f => by
      rw [List.countP_cons]
    rw [c, c, c, c, c]
    have key : (if atb p x = true then 1 else 0) + ((if unb (4 * p + 1) x = true then 1 else 0) + ((if unb (4 * p + 1 + 1) x = true then 1 else 0) + (if unb (4 * p + 1 + 2) x = true then 1 else 0))) ≤ (if unb p x = true then 1 else 0) := by
      by_cases h0 : atb p x = true
      · have e : x.1 = p := by unfold atb at h0; simpa using h0
        have n0 : ¬ unb (4 * p + 1) x = true := fun h => dn 0 e (unb_t.mp h)
        have n1 : ¬ unb (4 * p + 1 + 1) x = true := fun h => dn 1 e (unb_t.mp h)
        have n2 : ¬ unb (4 * p + 1 + 2) x = true := fun h => dn 2 e (unb_t.mp h)
        have y : unb p x = true := unb_t.mpr (by rw [e]; exact un_refl)
        rw [if_pos h0, if_neg n0, if_neg n1, if_neg n2, if_pos y]; decide
      · rw [if_neg h0]
        by_cases k0 : unb (4 * p + 1) x = true
        · have n1 : ¬ unb (4 * p + 1 + 1) x = true := fun h => sib 0 1 (by decide) (by decide) (by decide) (unb_t.mp k0) (unb_t.mp h)
          have n2 : ¬ unb (4 * p + 1 + 2) x = true := fun h => sib 0 2 (by decide) (by decide) (by decide) (unb_t.mp k0) (unb_t.mp h)
          have y : unb p x = true := unb_t.mpr (up 0 (by decide) (unb_t.mp k0))
          rw [if_pos k0, if_neg n1, if_neg n2, if_pos y]; decide
        · rw [if_neg k0]
          by_cases k1 : unb (4 * p + 1 + 1) x = true
          · have n2 : ¬ unb (4 * p + 1 + 2) x = true := fun h => sib 1 2 (by decide) (by decide) (by decide) (unb_t.mp k1) (unb_t.mp h)
            have y : unb p x = true := unb_t.mpr (up 1 (by decide) (unb_t.mp k1))
            rw [if_pos k1, if_neg n2, if_pos y]; decide
          · rw [if_neg k1]
            by_cases k2 : unb (4 * p + 1 + 2) x = true
            · have y : unb p x = true := unb_t.mpr (up 2 (by decide) (unb_t.mp k2))
              rw [if_pos k2, if_pos y]; decide
            · rw [if_neg k2]; omega
    omega
theorem cnt_cols : ∀ PL : List (Nat × Int), PL.countP (unb 1) + (PL.countP (unb 2) + (PL.countP (unb 3) + PL.countP (unb 4))) ≤ PL.length := by
  intro PL
  induction PL with
  | nil => exact Nat.le_refl _
  | cons x PL ih =>
    have sib : ∀ i j : Nat, 1 ≤ i → i ≤ 4 → 1 ≤ j → j ≤ 4 → i ≠ j → un i x.1 → un j x.1 → False := fun i j a1 a2 b1 b2 hne h1 h2 => un_sib (P := 0) ⟨by omega, by omega⟩ ⟨by omega, by omega⟩ hne h1 h2
    have c : ∀ f : Nat × Int → Bool, (x :: PL).countP f = PL.countP f + (if f x = true then 1 else 0) := fun f => by
      rw [List.countP_cons]
    rw [c, c, c, c, List.length_cons]
    have key : (if unb 1 x = true then 1 else 0) + ((if unb 2 x = true then 1 else 0) + ((if unb 3 x = true then 1 else 0) + (if unb 4 x = true then 1 else 0))) ≤ 1 := by
      by_cases k1 : unb 1 x = true
      · have n2 : ¬ unb 2 x = true := fun h => sib 1 2 (by decide) (by decide) (by decide) (by decide) (by decide) (unb_t.mp k1) (unb_t.mp h)
        have n3 : ¬ unb 3 x = true := fun h => sib 1 3 (by decide) (by decide) (by decide) (by decide) (by decide) (unb_t.mp k1) (unb_t.mp h)
        have n4 : ¬ unb 4 x = true := fun h => sib 1 4 (by decide) (by decide) (by decide) (by decide) (by decide) (unb_t.mp k1) (unb_t.mp h)
        rw [if_pos k1, if_neg n2, if_neg n3, if_neg n4]; decide
      · rw [if_neg k1]
        by_cases k2 : unb 2 x = true
        · have n3 : ¬ unb 3 x = true := fun h => sib 2 3 (by decide) (by decide) (by decide) (by decide) (by decide) (unb_t.mp k2) (unb_t.mp h)
          have n4 : ¬ unb 4 x = true := fun h => sib 2 4 (by decide) (by decide) (by decide) (by decide) (by decide) (unb_t.mp k2) (unb_t.mp h)
          rw [if_pos k2, if_neg n3, if_neg n4]; decide
        · rw [if_neg k2]
          by_cases k3 : unb 3 x = true
          · have n4 : ¬ unb 4 x = true := fun h => sib 3 4 (by decide) (by decide) (by decide) (by decide) (by decide) (unb_t.mp k3) (unb_t.mp h)
            rw [if_pos k3, if_neg n4]; decide
          · rw [if_neg k3]
            split <;> decide
    omega
