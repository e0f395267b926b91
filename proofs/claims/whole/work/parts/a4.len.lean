/-! THE EXAMPLE: its depth and its length -/
theorem at_ty {F : Nat → Nat → Int} {aT W : Nat → Int} {r s N m wd c i : Nat} (hE : rE F aT W r s N m wd) (hc : c < m) (hi : (i : Int) < F (r + 6) c) : aT (3 * c + i) = 6 ∨ ∃ T : Nat, T < N ∧ aT (3 * c + i) = (T : Int) := by
  obtain ⟨-, -, -, art⟩ := hE.2.2.2.2.2.1 c hc
  obtain ⟨-, at1, at2⟩ := art i hi
  rw [at1] at at2 ⊢
  unfold lx at at2 ⊢
  by_cases e : F (r + 12) (3 * c + i) = 8
  · rw [if_pos e]; exact Or.inl rfl
  · rw [if_neg e] at at2 ⊢
    have := fx_rg (F (r + 9)) N (F (r + 12) (3 * c + i))
    exact Or.inr ⟨(fx (F (r + 9)) N (F (r + 12) (3 * c + i))).toNat, by omega, by omega⟩
section LEN
variable {F : Nat → Nat → Int} {aT W : Nat → Int} {r s N m wd : Nat} {g : Nat → Int}
theorem nw_kid {n p T fc kc : Nat} {t : tm n} (hE : rE F aT W r s N m wd) (hTy : tyS F r N m) (hT : T < N) (hnew : F (r + 2) T = 1) (hfc : F (r + 3) T = (fc : Int)) (hkc : F (r + 4) T = (kc : Int)) (ho : tm_ok n t) (hf : tf (fx g m) (F (r + 5)) (F (r + 6)) aT n (T : Int) t = none) (hne : akf (al (fx g m) (nwc F r) n p t) ≠ []) : ∃ (n2 : Nat) (x : tm n2), n2 + 1 ≤ n ∧ tm_ok n2 x ∧ tf (fx g m) (F (r + 5)) (F (r + 6)) aT n2 (aT (3 * fc)) x = none ∧ akf (al (fx g m) (nwc F r) n2 p x) = akf (al (fx g m) (nwc F r) n p t) ∧ ((p, 0) :: pls (fx g m) (nwc F r) n2 p x).Sublist (pls (fx g m) (nwc F r) n p t) := by
  have hN := hE.2.1
  obtain ⟨n2, t2, b1, b2, b3, b4, b5, b6⟩ := strip n p t (T : Int) ho hf hne
  have k4 : (tm_l t2).1 ≠ 4 := by
    intro k4
    unfold tf at b4
    rw [if_pos k4, if_neg (by omega)] at b4
    exact absurd b4 (by simp)
  obtain ⟨c, T', d1, d2, d3, d4, d5, d6, d7, d8, d9⟩ := tcon hE b3 b4 (by omega)
  have eT : T' = T := by omega
  subst eT
  obtain ⟨fc', kc', t1, t2', t3, t4, t5, t6, t7⟩ := hTy T' hT
  have e1 : fc' = fc := by have := t1.symm.trans hfc; omega
  have e2 : kc' = kc := by have := t2'.symm.trans hkc; omega
  subst e1
  subst e2
  have kc1 := (t7 hnew).2
  have cfc := (t6 c d1).mp d4
  have cfc : c = fc' := by omega
  have ar1 := d9 hnew
  have hnwc : nwc F r (fx g m (tm_l t2).2.2.2.2.1) = true := by
    rw [d3]
    unfold nwc
    rw [Int.toNat_natCast, d4, Int.toNat_natCast]
    simpa using hnew
  rcases hk : tm_k t2 with _ | ⟨x, ks⟩
  · rw [hk] at d7
    have : (([] : List (tm n2)).length : Int) = 0 := rfl
    omega
  · rw [hk] at d7 d6
    have d7 : ((ks.length + 1 : Nat) : Int) = F (r + 6) c := d7
    have ks0 : ks = [] := List.eq_nil_of_length_eq_zero (by omega)
    subst ks0
    refine ⟨n2, x, b1, d8 x (by rw [hk]; exact List.mem_cons_self), ?_, ?_, ?_⟩
    · have := d6.1
      rw [cfc] at this
      exact this
    · rw [← b5, al_u, if_neg (by omega), if_neg (by omega), if_neg (by omega), if_pos (by omega), if_pos hnwc, hk]
      show _ = akf (al _ _ n2 p x ++ [])
      rw [List.append_nil]
    · rw [pls_u, if_neg (by omega), if_pos (by omega), if_pos hnwc, hk] at b6
      have e3 : ls_al (pls (fx g m) (nwc F r) n2) p [x] = pls (fx g m) (nwc F r) n2 p x ++ [] := rfl
      rw [e3, List.append_nil] at b6
      exact b6
theorem old_kid {n p T : Nat} {t : tm n} (hE : rE F aT W r s N m wd) (hT : T < N) (hold : F (r + 2) T ≠ 1) (ho : tm_ok n t) (hf : tf (fx g m) (F (r + 5)) (F (r + 6)) aT n (T : Int) t = none) (hne : akf (al (fx g m) (nwc F r) n p t) ≠ []) : ∃ (n2 c : Nat) (ks : List (tm n2)), n2 + 1 ≤ n ∧ c < m ∧ F (r + 5) c = (T : Int) ∧ akf (al (fx g m) (nwc F r) n p t) = (p, (c : Int)) :: akf (ls_al (al (fx g m) (nwc F r) n2) (4 * p + 1) ks) ∧ tyl (tf (fx g m) (F (r + 5)) (F (r + 6)) aT n2) ks (fun i => aT (3 * c + i)) ∧ (ks.length : Int) = F (r + 6) c ∧ (∀ k ∈ ks, tm_ok n2 k) ∧ ((p, 0) :: ls_al (pls (fx g m) (nwc F r) n2) (4 * p + 1) ks).Sublist (pls (fx g m) (nwc F r) n p t) := by
  have hN := hE.2.1
  obtain ⟨n2, t2, b1, b2, b3, b4, b5, b6⟩ := strip n p t (T : Int) ho hf hne
  have k4 : (tm_l t2).1 ≠ 4 := by
    intro k4
    unfold tf at b4
    rw [if_pos k4, if_neg (by omega)] at b4
    exact absurd b4 (by simp)
  obtain ⟨c, T', d1, d2, d3, d4, d5, d6, d7, d8, d9⟩ := tcon hE b3 b4 (by omega)
  have eT : T' = T := by omega
  subst eT
  have hnwc : ¬ nwc F r (fx g m (tm_l t2).2.2.2.2.1) = true := by
    rw [d3]
    unfold nwc
    rw [Int.toNat_natCast, d4, Int.toNat_natCast]
    simpa using hold
  refine ⟨n2, c, tm_k t2, b1, d1, d4, ?_, d6, d7, d8, ?_⟩
  · rw [← b5, al_u, if_neg (by omega), if_neg (by omega), if_neg (by omega), if_pos (by omega), if_neg hnwc, d3, akf_ask (by show (c : Int) ≠ -1; omega)]
  · rw [pls_u, if_neg (by omega), if_pos (by omega), if_neg hnwc] at b6
    exact b6
theorem num_kid {n p : Nat} {t : tm n} (hE : rE F aT W r s N m wd) (ho : tm_ok n t) (hf : tf (fx g m) (F (r + 5)) (F (r + 6)) aT n 6 t = none) (hne : akf (al (fx g m) (nwc F r) n p t) ≠ []) : ∃ v : Int, 100 ≤ v ∧ akf (al (fx g m) (nwc F r) n p t) = [(p, v)] ∧ ([(p, 0)] : List (Nat × Int)).Sublist (pls (fx g m) (nwc F r) n p t) := by
  have hN := hE.2.1
  obtain ⟨n2, t2, b1, b2, b3, b4, b5, b6⟩ := strip n p t 6 ho hf hne
  by_cases k4 : (tm_l t2).1 = 4
  · have q4 : 0 ≤ (tm_l t2).2.2.2.2.2 := by
      rcases b3.2.2.2 with q | q | q | q
      · omega
      · exact q.2.2.1
      · omega
      · omega
    refine ⟨100 + (tm_l t2).2.2.2.2.2, by omega, ?_, ?_⟩
    · rw [← b5, al_u, if_neg (by omega), if_neg (by omega), if_pos k4, akf_ask (by show 100 + (tm_l t2).2.2.2.2.2 ≠ -1; omega)]
      rfl
    · refine List.Sublist.trans ?_ b6
      rw [pls_u]
      exact List.Sublist.cons_cons _ (List.nil_sublist _)
  · obtain ⟨c, T', d1, d2, d3, d4, d5, -⟩ := tcon hE b3 b4 (by omega)
    omega
end LEN
section LEM
variable (K : Nat → Int) (F : Nat → Nat → Int) (aT : Nat → Int) (r m : Nat) (g : Nat → Int) (PL : List (Nat × Int))
def wit (n p : Nat) (w : Int) (q : Nat) : Prop := ∃ (n' : Nat) (t : tm n') (v : Int), n' ≤ n ∧ tm_ok n' t ∧ tf (fx g m) (F (r + 5)) (F (r + 6)) aT n' w t = none ∧ (q, v) ∈ akf (al (fx g m) (nwc F r) n' p t) ∧ twf F r (K q) = twf F r v ∧ (∀ x ∈ akf (al (fx g m) (nwc F r) n' p t), x.1 ≠ q → un x.1 q → K x.1 = x.2) ∧ (pls (fx g m) (nwc F r) n' p t).Sublist PL
noncomputable def ksum (p : Nat) : Nat := PL.countP (unb (4 * p + 1)) + (PL.countP (unb (4 * p + 1 + 1)) + PL.countP (unb (4 * p + 1 + 2)))
end LEM
theorem digs_len {v : Int} : (digs v).length ≤ 3 := by
  unfold digs
  rw [List.length_append, List.length_append]
  have h1 : (if 99 < v then [48 + v / 100 % 10] else []).length ≤ 1 := by split <;> simp
  have h2 : (if 9 < v then [48 + v / 10 % 10] else []).length ≤ 1 := by split <;> simp
  have h3 : [48 + v % 10].length = 1 := rfl
  omega
section LEB
variable {K : Nat → Int} {F Ic : Nat → Nat → Int} {aT W : Nat → Int} {r s N m wd : Nat} {g : Nat → Int} {PL : List (Nat × Int)} {nmL : Nat → List Int}
theorem kds_len {f : Nat → Int → List Int} {c base : Nat} {b : Nat → Nat} : ∀ (k i : Nat), (∀ j : Nat, i ≤ j → j < i + k → (f (base + j) (aT (3 * c + j))).length ≤ 1 + 15 * b j) → (k = 0 → (kds aT f c base k i).length = 0) ∧ (k = 1 → (kds aT f c base k i).length ≤ 2 + 15 * b i) ∧ (k = 2 → (kds aT f c base k i).length ≤ 4 + 15 * (b i + b (i + 1))) ∧ (k = 3 → (kds aT f c base k i).length ≤ 6 + 15 * (b i + (b (i + 1) + b (i + 2)))) := by
  intro k i h
  have e : ∀ k i : Nat, (kds aT f c base (k + 1) i).length = 1 + ((f (base + i) (aT (3 * c + i))).length + (kds aT f c base k (i + 1)).length) := by
    intro k i
    show (32 :: (f (base + i) (aT (3 * c + i)) ++ kds aT f c base k (i + 1))).length = _
    rw [List.length_cons, List.length_append]; omega
  have e0 : ∀ i : Nat, (kds aT f c base 0 i).length = 0 := fun _ => rfl
  refine ⟨fun hk => by rw [hk]; exact e0 i, fun hk => ?_, fun hk => ?_, fun hk => ?_⟩
  · subst hk
    rw [e, e0]
    have := h i (by omega) (by omega)
    omega
  · subst hk
    rw [e, e, e0]
    have := h i (by omega) (by omega)
    have := h (i + 1) (by omega) (by omega)
    omega
  · subst hk
    rw [e, e, e, e0]
    have := h i (by omega) (by omega)
    have := h (i + 1) (by omega) (by omega)
    have := h (i + 1 + 1) (by omega) (by omega)
    have e9 : i + 1 + 1 = i + 2 := by omega
    rw [e9] at *
    omega
theorem len_all (hE : rE F aT W r s N m wd) (hTy : tyS F r N m) (hC : cE F r s N m Ic) (hkv : ∀ q : Nat, K q = -1 ∨ (vdf m (K q) ∧ K q ≤ 1099)) (hnm : ∀ c : Nat, (nmL c).length ≤ 8) : ∀ (n p : Nat) (w : Int), (w = 6 ∨ ∃ T : Nat, T < N ∧ w = (T : Int)) → (∀ q : Nat, un p q → K q ≠ -1 → wit K F aT r m g PL n p w q) → AA K F aT r m n p w ∧ (wtx K F aT r nmL n p w).length ≤ 1 + 15 * PL.countP (unb p) ∧ ∀ (n' : Nat) (t : tm n'), tm_ok n' t → tf (fx g m) (F (r + 5)) (F (r + 6)) aT n' w t = none → akf (al (fx g m) (nwc F r) n' p t) ≠ [] → (wtx K F aT r nmL n p w).length ≤ 1 + 15 * ((pls (fx g m) (nwc F r) n' p t).countP (atb p) + ksum PL p) := by
  have hN := hE.2.1
  have hm := hE.2.2.1
  have at1 : ∀ p : Nat, atb p (p, 0) = true := fun p => by unfold atb; simp
  intro n
  induction n with
  | zero =>
    intro p w hw hH
    refine ⟨?_, ?_, fun n' t _ _ _ => ?_⟩
    · rcases Classical.em (K p = -1) with h | h
      · exact h
      · obtain ⟨n', t, v, h1, -⟩ := hH p un_refl h
        have : n' = 0 := by omega
        subst this
        exact t.elim
    · show 1 ≤ _; omega
    · show 1 ≤ _; omega
  | succ n ih =>
    intro p w hw hH
    have ed : wtx K F aT r nmL (n + 1) p w = (if K p = -1 then [95] else if w ≠ 6 ∧ F (r + 2) w.toNat = 1 then wcn F aT r nmL (wtx K F aT r nmL n) (F (r + 3) w.toNat).toNat p else if 100 ≤ K p then digs (K p - 100) else if F (r + 6) (K p).toNat = 0 then (nmL (K p).toNat).reverse else wcn F aT r nmL (wtx K F aT r nmL n) (K p).toNat (4 * p + 1)) := rfl
    by_cases hk : K p = -1
    · rw [if_pos hk] at ed
      rw [ed]
      refine ⟨Or.inl hk, ?_, fun n' t _ _ _ => ?_⟩
      · show 1 ≤ _; omega
      · show 1 ≤ _; omega
    · rw [if_neg hk] at ed
      have hv : vdf m (K p) ∧ K p ≤ 1099 := by
        rcases hkv p with h | h
        · exact absurd h hk
        · exact h
      obtain ⟨n0, t0, v0, z1, z2, z3, z4, z5, z6, z7⟩ := hH p un_refl hk
      have ne0 : akf (al (fx g m) (nwc F r) n0 p t0) ≠ [] := fun e => by rw [e] at z4; exact absurd z4 (by simp)
      -- from the chain to the top
      have top : (∀ (n' : Nat) (t : tm n'), tm_ok n' t → tf (fx g m) (F (r + 5)) (F (r + 6)) aT n' w t = none → akf (al (fx g m) (nwc F r) n' p t) ≠ [] → (wtx K F aT r nmL (n + 1) p w).length ≤ 1 + 15 * ((pls (fx g m) (nwc F r) n' p t).countP (atb p) + ksum PL p)) → (wtx K F aT r nmL (n + 1) p w).length ≤ 1 + 15 * PL.countP (unb p) := by
        intro h
        have h1 := h n0 t0 z2 z3 ne0
        have h2 := z7.countP_le (p := atb p)
        have h3 := cnt_kids (p := p) PL
        unfold ksum at h1
        omega
      rcases Classical.em (w = 6) with w6 | w6
      · -- a number
        subst w6
        have hnn : ¬ ((6 : Int) ≠ 6 ∧ F (r + 2) (6 : Int).toNat = 1) := fun h => h.1 rfl
        obtain ⟨v, y1, y2, y3⟩ := num_kid hE z2 z3 ne0
        rw [y2] at z4
        have ev : v0 = v := by
          have : (p, v0) = (p, v) := by simpa using z4
          exact congrArg Prod.snd this
        rw [ev, twf_num y1] at z5
        have k100 := num_6 hC hv.1 z5
        rw [if_neg hnn, if_pos k100] at ed
        have chain : ∀ (n' : Nat) (t : tm n'), tm_ok n' t → tf (fx g m) (F (r + 5)) (F (r + 6)) aT n' 6 t = none → akf (al (fx g m) (nwc F r) n' p t) ≠ [] → (wtx K F aT r nmL (n + 1) p 6).length ≤ 1 + 15 * ((pls (fx g m) (nwc F r) n' p t).countP (atb p) + ksum PL p) := by
          intro n' t g1 g2 g3
          obtain ⟨-, -, -, y4⟩ := num_kid hE g1 g2 g3
          have c1 := y4.countP_le (p := atb p)
          rw [List.countP_cons_of_pos (at1 p)] at c1
          rw [ed]
          have := digs_len (v := K p - 100)
          omega
        refine ⟨Or.inr ?_, top chain, chain⟩
        rw [if_neg hnn, if_pos rfl]
        exact ⟨k100, hv.2⟩
      · obtain ⟨T, hT, rfl⟩ : ∃ T : Nat, T < N ∧ w = (T : Int) := by
          rcases hw with h | h
          · exact absurd h w6
          · exact h
        clear hw
        obtain ⟨fc, kc, t1, t2, t3, t4, t5, t6, t7⟩ := hTy T hT
        by_cases hnew : F (r + 2) T = 1
        · -- a new type
          have hnn : ((T : Int) ≠ 6 ∧ F (r + 2) (T : Int).toNat = 1) := ⟨w6, hnew⟩
          have ar1 := (t7 hnew).1
          have fcm : fc < m := by omega
          rw [if_pos hnn, Int.toNat_natCast, t1, Int.toNat_natCast] at ed
          have e3 : 3 * fc + 0 = 3 * fc := rfl
          obtain ⟨i1, i2, i3⟩ := ih p (aT (3 * fc)) (at_ty (i := 0) hE fcm (by rw [ar1]; decide)) (fun q hq hkq => by
            obtain ⟨n', t, v, x1, x2, x3, x4, x5, x6, x7⟩ := hH q hq hkq
            obtain ⟨n2, x, b1, b2, b3, b4, b5⟩ := nw_kid hE hTy hT hnew t1 t2 x2 x3 (fun e => by rw [e] at x4; exact absurd x4 (by simp))
            refine ⟨n2, x, v, by omega, b2, b3, by rw [b4]; exact x4, x5, by rw [b4]; exact x6, (List.sublist_cons_self _ _).trans (b5.trans x7)⟩)
          have lw : (wcn F aT r nmL (wtx K F aT r nmL n) fc p).length = 3 + (nmL fc).length + (wtx K F aT r nmL n p (aT (3 * fc))).length := by
            unfold wcn
            rw [ar1]
            show (40 :: ((nmL fc).reverse ++ ((32 :: (wtx K F aT r nmL n (p + 0) (aT (3 * fc + 0)) ++ [])) ++ [41]))).length = _
            simp only [List.length_cons, List.length_append, List.length_reverse, List.length_nil, Nat.add_zero]
            omega
          have n8 := hnm fc
          have chain : ∀ (n' : Nat) (t : tm n'), tm_ok n' t → tf (fx g m) (F (r + 5)) (F (r + 6)) aT n' (T : Int) t = none → akf (al (fx g m) (nwc F r) n' p t) ≠ [] → (wtx K F aT r nmL (n + 1) p (T : Int)).length ≤ 1 + 15 * ((pls (fx g m) (nwc F r) n' p t).countP (atb p) + ksum PL p) := by
            intro n' t g1 g2 g3
            obtain ⟨n2, x, b1, b2, b3, b4, b5⟩ := nw_kid hE hTy hT hnew t1 t2 g1 g2 g3
            have h1 := i3 n2 x b2 b3 (by rw [b4]; exact g3)
            have c1 := b5.countP_le (p := atb p)
            rw [List.countP_cons_of_pos (at1 p)] at c1
            rw [ed, lw]
            omega
          refine ⟨Or.inr ?_, top chain, chain⟩
          rw [if_pos hnn, Int.toNat_natCast, t1, Int.toNat_natCast]
          intro i hi
          have : i = 0 := by omega
          subst this
          exact i1
        · -- an old one
          have hnn : ¬ ((T : Int) ≠ 6 ∧ F (r + 2) (T : Int).toNat = 1) := fun h => hnew h.2
          obtain ⟨n2, c, ks, b1, b2, b3, b4, b5, b6, b7, b8⟩ := old_kid hE hT hnew z2 z3 ne0
          have x0 := z6
          rw [b4] at z4
          -- what is settled is of the type
          have kT : twf F r (K p) = T := by
            rw [z5]
            rcases List.mem_cons.mp z4 with q | q
            · have : v0 = (c : Int) := congrArg Prod.snd q
              rw [this]; exact twf_con (by omega) b3
            · exfalso
              obtain ⟨j, kd, j1, j2, j3, j4, -⟩ := kid_of ks (4 * p + 1) _ _ b7 b5 q
              obtain ⟨y1, -⟩ := (al_all (g := g) hE hTy n2 ((4 * p + 1 + j + 2) * 4 ^ n2) (4 * p + 1 + j) _ kd (by omega) (Nat.le_refl _) j2 j3).1 _ j4
              exact un_down y1
          obtain ⟨c', hc', w1, w2⟩ := vd_con hC hT t1 t2 hv.1 kT
          obtain ⟨v1, v2, -, -⟩ := con_vd hC hT t1 t2 w1 w2
          obtain ⟨-, ar0, ar3, -⟩ := hE.2.2.2.2.2.1 c' v1
          rw [if_neg hnn, if_neg (by omega), hc', Int.toNat_natCast] at ed
          -- the kids
          have kids : ∀ i : Nat, (i : Int) < F (r + 6) c' → AA K F aT r m n (4 * p + 1 + i) (aT (3 * c' + i)) ∧ (wtx K F aT r nmL n (4 * p + 1 + i) (aT (3 * c' + i))).length ≤ 1 + 15 * PL.countP (unb (4 * p + 1 + i)) := by
            intro i hi
            have go := ih (4 * p + 1 + i) (aT (3 * c' + i)) (at_ty hE v1 hi) (fun q hq hkq => by
              obtain ⟨n', t, v, x1, x2, x3, x4, x5, x6, x7⟩ := hH q (un_child (by omega) hq) hkq
              have net : akf (al (fx g m) (nwc F r) n' p t) ≠ [] := fun e => by rw [e] at x4; exact absurd x4 (by simp)
              obtain ⟨n3, c3, ks3, y1, y2, y3, y4, y5, y6, y7, y8⟩ := old_kid hE hT hnew x2 x3 net
              have qp : q ≠ p := fun e => by rw [e] at hq; exact un_down hq
              have e1 : K p = (c3 : Int) := x6 (p, (c3 : Int)) (by rw [y4]; exact List.mem_cons_self) (Ne.symm qp) (un_child (by omega) hq)
              have e2 : c3 = c' := by omega
              subst e2
              rw [y4] at x4
              have x4' : (q, v) ∈ akf (ls_al (al (fx g m) (nwc F r) n3) (4 * p + 1) ks3) := by
                rcases List.mem_cons.mp x4 with e | e
                · exact absurd (congrArg Prod.fst e) qp
                · exact e
              obtain ⟨j, kd, j1, j2, j3, j4, j5, j6⟩ := kid_of ks3 (4 * p + 1) _ _ y7 y5 x4'
              obtain ⟨u1, -⟩ := (al_all (g := g) hE hTy n3 ((4 * p + 1 + j + 2) * 4 ^ n3) (4 * p + 1 + j) _ kd (by omega) (Nat.le_refl _) j2 j3).1 _ j4
              have eji : j = i := by
                rcases Nat.lt_trichotomy j i with e | e | e
                · exact (un_sib (P := p) ⟨by omega, by omega⟩ ⟨by omega, by omega⟩ (by omega) u1 hq).elim
                · exact e
                · exact (un_sib (P := p) ⟨by omega, by omega⟩ ⟨by omega, by omega⟩ (by omega) u1 hq).elim
              subst eji
              refine ⟨n3, kd, v, by omega, j2, j3, j4, x5, fun x hx h1 h2 => x6 x (by rw [y4]; exact List.mem_cons_of_mem _ (j5 x hx)) h1 h2, j6.trans ((List.sublist_cons_self _ _).trans (y8.trans x7))⟩)
            exact ⟨go.1, go.2.1⟩
          obtain ⟨ar, har⟩ : ∃ ar : Nat, F (r + 6) c' = (ar : Int) := ⟨(F (r + 6) c').toNat, by omega⟩
          have n8 := hnm c'
          have kl := kds_len (aT := aT) (f := wtx K F aT r nmL n) (c := c') (base := 4 * p + 1) (b := fun i => PL.countP (unb (4 * p + 1 + i))) ar 0 (fun j _ hj => (kids j (by omega)).2)
          have ksl : (kds aT (wtx K F aT r nmL n) c' (4 * p + 1) ar 0).length ≤ 6 + 15 * ksum PL p := by
            have e0 : ksum PL p = PL.countP (unb (4 * p + 1 + 0)) + (PL.countP (unb (4 * p + 1 + (0 + 1))) + PL.countP (unb (4 * p + 1 + (0 + 2)))) := rfl
            have ar3' : ar ≤ 3 := by omega
            rw [e0]
            obtain ⟨l0, l1, l2, l3⟩ := kl
            have h4 : ar = 0 ∨ ar = 1 ∨ ar = 2 ∨ ar = 3 := by omega
            rcases h4 with h4 | h4 | h4 | h4
            · have := l0 h4; omega
            · have := l1 h4
              have : (kds aT (wtx K F aT r nmL n) c' (4 * p + 1) ar 0).length ≤ 2 + 15 * PL.countP (unb (4 * p + 1 + 0)) := this
              omega
            · have := l2 h4
              have : (kds aT (wtx K F aT r nmL n) c' (4 * p + 1) ar 0).length ≤ 4 + 15 * (PL.countP (unb (4 * p + 1 + 0)) + PL.countP (unb (4 * p + 1 + (0 + 1)))) := this
              omega
            · have := l3 h4
              have : (kds aT (wtx K F aT r nmL n) c' (4 * p + 1) ar 0).length ≤ 6 + 15 * (PL.countP (unb (4 * p + 1 + 0)) + (PL.countP (unb (4 * p + 1 + (0 + 1))) + PL.countP (unb (4 * p + 1 + (0 + 2))))) := this
              omega
          have lw : (wtx K F aT r nmL (n + 1) p (T : Int)).length ≤ 16 + 15 * ksum PL p := by
            rw [ed]
            by_cases h0 : F (r + 6) c' = 0
            · rw [if_pos h0, List.length_reverse]; omega
            · rw [if_neg h0]
              unfold wcn
              rw [har, Int.toNat_natCast]
              simp only [List.length_cons, List.length_append, List.length_reverse, List.length_nil]
              omega
          have chain : ∀ (n' : Nat) (t : tm n'), tm_ok n' t → tf (fx g m) (F (r + 5)) (F (r + 6)) aT n' (T : Int) t = none → akf (al (fx g m) (nwc F r) n' p t) ≠ [] → (wtx K F aT r nmL (n + 1) p (T : Int)).length ≤ 1 + 15 * ((pls (fx g m) (nwc F r) n' p t).countP (atb p) + ksum PL p) := by
            intro n' t g1 g2 g3
            obtain ⟨n3, c3, ks3, y1, y2, y3, y4, y5, y6, y7, y8⟩ := old_kid hE hT hnew g1 g2 g3
            have c1 := y8.countP_le (p := atb p)
            rw [List.countP_cons_of_pos (at1 p)] at c1
            omega
          refine ⟨Or.inr ?_, top chain, chain⟩
          rw [if_neg hnn, if_neg w6, hc', Int.toNat_natCast]
          exact ⟨by omega, by omega, fun i hi => (kids i hi).1⟩
end LEB
