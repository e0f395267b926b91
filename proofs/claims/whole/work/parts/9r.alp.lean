/-! SEARCH: what the rows' asks have among themselves -/
theorem aOrd_app : ∀ (B P B' : List (Nat × Int)), aOrd P B → aOrd (P ++ B) B' → aOrd P (B ++ B') := by
  intro B
  induction B with
  | nil => intro P B' _ h; rw [List.append_nil] at h; exact h
  | cons x B ih =>
    intro P B' h h'
    refine ⟨h.1, ih (P ++ [x]) B' h.2 ?_⟩
    rw [List.append_assoc]; exact h'
theorem fx_rg (g : Nat → Int) (m : Nat) (x : Int) : -1 ≤ fx g m x ∧ fx g m x < (m : Int) := by
  rcases fx_cases g x m with ⟨h, -⟩ | ⟨c, h1, h2, -⟩
  · rw [h]; omega
  · rw [h2]; omega
section ALP
variable (F : Nat → Nat → Int) (aT : Nat → Int) (r m : Nat)
def nwt (w : Int) : Prop := w ≠ 6 ∧ F (r + 2) w.toNat = 1
def uwk : Nat → Int → Int
  | 0, w => w
  | k + 1, w => uwk k (aT (3 * (F (r + 3) w.toNat).toNat))
def unwR (w : Int) (T : Nat) : Prop := ∃ k : Nat, (∀ j : Nat, j < k → nwt F r (uwk F aT r j w)) ∧ ¬ nwt F r (uwk F aT r k w) ∧ (T : Int) = uwk F aT r k w
def vok (v : Int) : Prop := (0 ≤ v ∧ v < (m : Int)) ∨ (100 ≤ v ∧ v ≤ 1099)
def alE (B : List (Nat × Int)) (p : Nat) (w : Int) (bd : Nat) (x : Nat × Int) : Prop := un p x.1 ∧ vok m x.2 ∧ x.1 + 2 ≤ bd ∧ (x.1 = p → unwR F aT r w (twf F r x.2)) ∧ (x.1 ≠ p → ∃ c : Nat, (pr x.1, (c : Int)) ∈ B ∧ unwR F aT r (aT (3 * c + (x.1 - 4 * pr x.1 - 1))) (twf F r x.2))
def alP (p : Nat) (w : Int) (bd : Nat) (B : List (Nat × Int)) : Prop := (∀ x ∈ B, alE F aT r m B p w bd x) ∧ cns B ∧ ∀ P : List (Nat × Int), (4 < p → ∃ c : Int, (pr p, c) ∈ P) → aOrd P B
def alL (p len : Nat) (Wt : Nat → Int) (bd : Nat) (B : List (Nat × Int)) : Prop := (∀ x ∈ B, ∃ i : Nat, i < len ∧ alE F aT r m B (p + i) (Wt i) bd x) ∧ cns B ∧ ∀ P : List (Nat × Int), (∀ i : Nat, i < len → 4 < p + i → ∃ c : Int, (pr (p + i), c) ∈ P) → aOrd P B
end ALP
section ALQ
variable {F : Nat → Nat → Int} {aT W : Nat → Int} {r s N m wd : Nat} {g : Nat → Int}
theorem unwR_uniq {w : Int} {T T' : Nat} (h : unwR F aT r w T) (h' : unwR F aT r w T') : T = T' := by
  obtain ⟨k, h1, h2, h3⟩ := h
  obtain ⟨k', g1, g2, g3⟩ := h'
  have : k = k' := by
    rcases Nat.lt_trichotomy k k' with q | q | q
    · exact absurd (g1 k q) h2
    · exact q
    · exact absurd (h1 k' q) g2
  subst this
  omega
theorem unwR_step {w : Int} {T : Nat} (hw : nwt F r w) (h : unwR F aT r (aT (3 * (F (r + 3) w.toNat).toNat)) T) : unwR F aT r w T := by
  obtain ⟨k, h1, h2, h3⟩ := h
  refine ⟨k + 1, fun j hj => ?_, h2, h3⟩
  cases j with
  | zero => exact hw
  | succ j => exact h1 j (by omega)
theorem alE_mono {B B' : List (Nat × Int)} {p bd bd' : Nat} {w : Int} {x : Nat × Int} (h : alE F aT r m B p w bd x) (hs : ∀ y ∈ B, y ∈ B') (hb : bd ≤ bd') : alE F aT r m B' p w bd' x := by
  obtain ⟨h1, h2, h3, h4, h5⟩ := h
  refine ⟨h1, h2, by omega, h4, fun hne => ?_⟩
  obtain ⟨c, g1, g2⟩ := h5 hne
  exact ⟨c, hs _ g1, g2⟩
theorem al_list {n bd P0 : Nat} (hX : ∀ (p : Nat) (w : Int) (t : tm n), 1 ≤ p → (p + 2) * 4 ^ n ≤ bd → tm_ok n t → tf (fx g m) (F (r + 5)) (F (r + 6)) aT n w t = none → alP F aT r m p w bd (akf (al (fx g m) (nwc F r) n p t))) : ∀ (ts : List (tm n)) (p : Nat) (Wt : Nat → Int), 4 * P0 + 1 ≤ p → p + ts.length ≤ 4 * P0 + 5 → (4 * P0 + 4 + 2) * 4 ^ n ≤ bd → (∀ t ∈ ts, tm_ok n t) → tyl (tf (fx g m) (F (r + 5)) (F (r + 6)) aT n) ts Wt → alL F aT r m p ts.length Wt bd (akf (ls_al (al (fx g m) (nwc F r) n) p ts)) := by
  intro ts
  induction ts with
  | nil =>
    intro p Wt _ _ _ _ _
    exact ⟨fun x hx => absurd hx (by simp [akf, ls_al]), fun x hx => absurd hx (by simp [akf, ls_al]), fun P _ => trivial⟩
  | cons t ts ih =>
    intro p Wt h1 h2 hb h3 h4
    have h2' : p + (ts.length + 1) ≤ 4 * P0 + 5 := h2
    have eal : akf (ls_al (al (fx g m) (nwc F r) n) p (t :: ts)) = akf (al (fx g m) (nwc F r) n p t) ++ akf (ls_al (al (fx g m) (nwc F r) n) (p + 1) ts) := by
      rw [← akf_app]; rfl
    rw [eal]
    obtain ⟨x1, x2, x3⟩ := hX p (Wt 0) t (by omega) (Nat.le_trans (Nat.mul_le_mul_right _ (by omega)) hb) (h3 t List.mem_cons_self) h4.1
    obtain ⟨y1, y2, y3⟩ := ih (p + 1) (fun i => Wt (i + 1)) (by omega) (by omega) hb (fun u hu => h3 u (List.mem_cons_of_mem _ hu)) h4.2
    refine ⟨fun x hx => ?_, fun x hx y hy e => ?_, fun P hP => ?_⟩
    · rcases List.mem_append.mp hx with q | q
      · exact ⟨0, Nat.succ_pos _, alE_mono (x1 x q) (fun z hz => List.mem_append_left _ hz) (Nat.le_refl _)⟩
      · obtain ⟨i, i1, i2⟩ := y1 x q
        refine ⟨i + 1, Nat.succ_lt_succ i1, ?_⟩
        rw [show p + (i + 1) = p + 1 + i by omega]
        exact alE_mono i2 (fun z hz => List.mem_append_right _ hz) (Nat.le_refl _)
    · rcases List.mem_append.mp hx with q | q <;> rcases List.mem_append.mp hy with q' | q'
      · exact x2 x q y q' e
      · obtain ⟨i, i1, i2⟩ := y1 y q'
        have u2 := i2.1
        rw [← e] at u2
        exact (un_sib (P := P0) ⟨h1, by omega⟩ ⟨by omega, by omega⟩ (by omega) (x1 x q).1 u2).elim
      · obtain ⟨i, i1, i2⟩ := y1 x q
        have u2 := i2.1
        rw [e] at u2
        exact (un_sib (P := P0) ⟨h1, by omega⟩ ⟨by omega, by omega⟩ (by omega) (x1 y q').1 u2).elim
      · exact y2 x q y q' e
    · refine aOrd_app _ _ _ (x3 P (fun h => ?_)) (y3 _ (fun i hi h => ?_))
      · exact hP 0 (Nat.succ_pos _) h
      · obtain ⟨c, hc⟩ := hP (i + 1) (Nat.succ_lt_succ hi) (by omega)
        rw [show p + (i + 1) = p + 1 + i by omega] at hc
        exact ⟨c, List.mem_append_left _ hc⟩
theorem pr_kid {p i : Nat} (h : i ≤ 3) : pr (4 * p + 1 + i) = p := by unfold pr; omega
theorem al_all (hE : rE F aT W r s N m wd) (hTy : tyS F r N m) : ∀ (n bd p : Nat) (w : Int) (t : tm n), 1 ≤ p → (p + 2) * 4 ^ n ≤ bd → tm_ok n t → tf (fx g m) (F (r + 5)) (F (r + 6)) aT n w t = none → alP F aT r m p w bd (akf (al (fx g m) (nwc F r) n p t)) := by
  intro n
  induction n with
  | zero => intro bd p w t; exact t.elim
  | succ n ih =>
    intro bd p w t hp hb ho hf
    have e4 : 4 ^ (n + 1) = 4 * 4 ^ n := by rw [Nat.pow_succ]; omega
    have one4 : 1 ≤ 4 ^ n := Nat.one_le_pow _ _ (by decide)
    have hb1 : (p + 2) * 4 ^ n ≤ bd := by
      rw [e4] at hb
      have : (p + 2) * 4 ^ n ≤ (p + 2) * (4 * 4 ^ n) := Nat.mul_le_mul_left _ (by omega)
      omega
    have hb2 : (4 * p + 4 + 2) * 4 ^ n ≤ bd := by
      rw [e4] at hb
      have : (4 * p + 4 + 2) * 4 ^ n ≤ (4 * (p + 2)) * 4 ^ n := Nat.mul_le_mul_right _ (by omega)
      have e : (4 * (p + 2)) * 4 ^ n = (p + 2) * (4 * 4 ^ n) := by
        rw [Nat.mul_comm 4 (p + 2), Nat.mul_assoc]
      omega
    have hb3 : p + 2 ≤ bd := by
      have := Nat.mul_le_mul_left (p + 2) one4
      omega
    have none' : akf (al (fx g m) (nwc F r) (n + 1) p t) = [] → alP F aT r m p w bd (akf (al (fx g m) (nwc F r) (n + 1) p t)) := by
      intro e
      rw [e]
      exact ⟨fun x hx => absurd hx (by simp), fun x hx => absurd hx (by simp), fun P _ => trivial⟩
    unfold tf at hf
    obtain ⟨o1, o2, o3, o4⟩ := ho
    rcases o4 with ⟨q1, q2⟩ | ⟨q1, q2, q3, q4⟩ | ⟨q1, k, q2, q3⟩ | ⟨q1, q2, q3⟩
    · -- a leaf
      rcases q1 with q1 | q1 | q1
      · exact none' (by rw [al_u, if_neg (by omega), if_neg (by omega), if_neg (by omega), if_neg (by omega)]; rfl)
      · rw [if_neg (by omega), if_pos (Or.inl q1)] at hf
        by_cases hc : fx g m (tm_l t).2.2.2.2.1 = -1 ∨ F (r + 5) (fx g m (tm_l t).2.2.2.2.1).toNat ≠ w
        · rw [if_pos hc] at hf; exact absurd hf (by simp)
        · rw [if_neg hc, if_pos q1] at hf
          have hr0 : F (r + 6) (fx g m (tm_l t).2.2.2.2.1).toNat = 0 := by
            by_cases e : F (r + 6) (fx g m (tm_l t).2.2.2.2.1).toNat = 0
            · exact e
            · rw [if_neg e] at hf; exact absurd hf (by simp)
          have c1 : fx g m (tm_l t).2.2.2.2.1 ≠ -1 := fun h => hc (Or.inl h)
          have c2 : F (r + 5) (fx g m (tm_l t).2.2.2.2.1).toNat = w := by
            by_cases e : F (r + 5) (fx g m (tm_l t).2.2.2.2.1).toNat = w
            · exact e
            · exact absurd (Or.inr e) hc
          have frg := fx_rg g m (tm_l t).2.2.2.2.1
          obtain ⟨c, hcc⟩ : ∃ c : Nat, fx g m (tm_l t).2.2.2.2.1 = (c : Int) := ⟨(fx g m (tm_l t).2.2.2.2.1).toNat, by omega⟩
          rw [hcc] at hr0 c2
          have hcm : c < m := by omega
          obtain ⟨⟨T, hT, hcT, hnw⟩, -⟩ := hE.2.2.2.2.2.1 c hcm
          have hr0 : F (r + 6) c = 0 := hr0
          have c2 : F (r + 5) c = w := c2
          have hn1 : F (r + 2) T ≠ 1 := fun h => by
            have := hnw h
            omega
          have hnwc : ¬ nwc F r (fx g m (tm_l t).2.2.2.2.1) = true := by
            rw [hcc]
            unfold nwc
            rw [Int.toNat_natCast, hcT, Int.toNat_natCast]
            simpa using hn1
          have eal : akf (al (fx g m) (nwc F r) (n + 1) p t) = [(p, (c : Int))] := by
            rw [al_u, if_neg (by omega), if_neg (by omega), if_neg (by omega), if_pos (Or.inl q1), if_neg hnwc, hcc, akf_ask (by show (c : Int) ≠ -1; omega), q2]
            rfl
          rw [eal]
          have hm36 := hE.2.2.1
          have tw : twf F r (c : Int) = T := twf_con (by omega) hcT
          refine ⟨fun x hx => ?_, fun x hx y hy _ => ?_, fun P hP => ⟨hP, trivial⟩⟩
          · have : x = (p, (c : Int)) := by simpa using hx
            subst this
            refine ⟨un_refl, Or.inl ⟨by show (0 : Int) ≤ (c : Int); omega, by show (c : Int) < (m : Int); omega⟩, hb3, fun _ => ⟨0, fun j hj => absurd hj (Nat.not_lt_zero j), ?_, ?_⟩, fun h => absurd rfl h⟩
            · rintro ⟨-, h2⟩
              have h2 : F (r + 2) w.toNat = 1 := h2
              rw [← c2, hcT] at h2
              exact hn1 h2
            · show ((twf F r (c : Int) : Nat) : Int) = w
              rw [tw, ← c2, hcT]
          · have e1 : x = (p, (c : Int)) := by simpa using hx
            have e2 : y = (p, (c : Int)) := by simpa using hy
            rw [e1, e2]
      · exact none' (by rw [al_u, if_neg (by omega), if_neg (by omega), if_neg (by omega), if_neg (by omega)]; rfl)
    · -- a number
      rw [if_pos q1] at hf
      have w6 : w = 6 := by
        by_cases e : w = 6
        · exact e
        · rw [if_neg e] at hf; exact absurd hf (by simp)
      have eal : akf (al (fx g m) (nwc F r) (n + 1) p t) = [(p, 100 + (tm_l t).2.2.2.2.2)] := by
        rw [al_u, if_neg (by omega), if_neg (by omega), if_pos q1, akf_ask (by show 100 + (tm_l t).2.2.2.2.2 ≠ -1; omega)]
        rfl
      rw [eal]
      refine ⟨fun x hx => ?_, fun x hx y hy _ => ?_, fun P hP => ⟨hP, trivial⟩⟩
      · have : x = (p, 100 + (tm_l t).2.2.2.2.2) := by simpa using hx
        subst this
        refine ⟨un_refl, Or.inr ⟨by show 100 ≤ 100 + (tm_l t).2.2.2.2.2; omega, by show 100 + (tm_l t).2.2.2.2.2 ≤ 1099; omega⟩, hb3, fun _ => ⟨0, fun j hj => absurd hj (Nat.not_lt_zero j), ?_, ?_⟩, fun h => absurd rfl h⟩
        · rintro ⟨h1, -⟩
          exact h1 w6
        · show ((twf F r (100 + (tm_l t).2.2.2.2.2) : Nat) : Int) = w
          rw [twf_num (by omega), w6]; rfl
      · have e1 : x = (p, 100 + (tm_l t).2.2.2.2.2) := by simpa using hx
        have e2 : y = (p, 100 + (tm_l t).2.2.2.2.2) := by simpa using hy
        rw [e1, e2]
    · -- one kid
      rw [if_neg (by omega), if_neg (by omega), q2] at hf
      have kid := ih bd p w k hp hb1 q3 hf
      rcases q1 with q1 | q1 | q1
      · exact none' (by rw [al_u, if_neg (by omega), if_neg (by omega), if_neg (by omega), if_neg (by omega)]; rfl)
      · have eal : akf (al (fx g m) (nwc F r) (n + 1) p t) = akf (al (fx g m) (nwc F r) n p k) := by
          rw [al_u, if_pos q1, akf_look rfl, q2]
          show akf (al _ _ n p k ++ []) = _
          rw [List.append_nil]
        rw [eal]; exact kid
      · have eal : akf (al (fx g m) (nwc F r) (n + 1) p t) = akf (al (fx g m) (nwc F r) n p k) := by
          rw [al_u, if_neg (by omega), if_pos q1, q2]
          show akf (al _ _ n p k ++ []) = _
          rw [List.append_nil]
        rw [eal]; exact kid
    · -- a constructor with kids
      rw [if_neg (by omega), if_pos (Or.inr q1)] at hf
      by_cases hc : fx g m (tm_l t).2.2.2.2.1 = -1 ∨ F (r + 5) (fx g m (tm_l t).2.2.2.2.1).toNat ≠ w
      · rw [if_pos hc] at hf; exact absurd hf (by simp)
      · rw [if_neg hc, if_neg (by omega)] at hf
        have c1 : fx g m (tm_l t).2.2.2.2.1 ≠ -1 := fun h => hc (Or.inl h)
        have c2 : F (r + 5) (fx g m (tm_l t).2.2.2.2.1).toNat = w := by
          by_cases e : F (r + 5) (fx g m (tm_l t).2.2.2.2.1).toNat = w
          · exact e
          · exact absurd (Or.inr e) hc
        have frg := fx_rg g m (tm_l t).2.2.2.2.1
        obtain ⟨c, hcc⟩ : ∃ c : Nat, fx g m (tm_l t).2.2.2.2.1 = (c : Int) := ⟨(fx g m (tm_l t).2.2.2.2.1).toNat, by omega⟩
        rw [hcc] at hf c2
        have hcm : c < m := by omega
        obtain ⟨⟨T, hT, hcT, hnw⟩, ar0, ar3, -⟩ := hE.2.2.2.2.2.1 c hcm
        have c2 : F (r + 5) c = w := c2
        have hf : ls_f (tf (fx g m) (F (r + 5)) (F (r + 6)) aT n) (tm_at n) (tm_l t).2.2.2.1 (fun i => aT (3 * c + i)) (F (r + 6) c).toNat (tm_k t) = none := hf
        obtain ⟨y3, y4⟩ := tyl_of _ _ _ hf
        have hN6 := hE.2.1
        have hm36 := hE.2.2.1
        have wT : w = (T : Int) := by rw [← c2, hcT]
        by_cases hn : F (r + 2) T = 1
        · -- new
          have hnwc : nwc F r (fx g m (tm_l t).2.2.2.2.1) = true := by
            rw [hcc]
            unfold nwc
            rw [Int.toNat_natCast, hcT, Int.toNat_natCast]
            simpa using hn
          obtain ⟨fc, kc, t1, t2, t3, t4, t5, t6, t7⟩ := hTy T hT
          have ar1 := hnw hn
          have kc1 := (t7 hn).2
          have cfc := (t6 c hcm).mp hcT
          have cfc : c = fc := by omega
          rcases hk : tm_k t with _ | ⟨k, ks⟩
          · rw [hk] at q2; exact absurd rfl q2
          · rw [hk] at y4 y3
            have y4 : ks.length + 1 = (F (r + 6) c).toNat := y4
            have ks0 : ks = [] := List.eq_nil_of_length_eq_zero (by omega)
            subst ks0
            have kid := ih bd p (aT (3 * c)) k hp hb1 (q3 k (by rw [hk]; exact List.mem_cons_self)) y3.1
            have eal : akf (al (fx g m) (nwc F r) (n + 1) p t) = akf (al (fx g m) (nwc F r) n p k) := by
              rw [al_u, if_neg (by omega), if_neg (by omega), if_neg (by omega), if_pos (Or.inr q1), if_pos hnwc, hk]
              show akf (al _ _ n p k ++ []) = _
              rw [List.append_nil]
            rw [eal]
            refine ⟨fun x hx => ?_, kid.2⟩
            obtain ⟨z1, z2, z3, z4, z5⟩ := kid.1 x hx
            refine ⟨z1, z2, z3, fun e => unwR_step ⟨by omega, by rw [wT]; exact hn⟩ ?_, z5⟩
            rw [wT]
            show unwR F aT r (aT (3 * (F (r + 3) T).toNat)) _
            rw [t1, Int.toNat_natCast, ← cfc]
            exact z4 e
        · have hnwc : ¬ nwc F r (fx g m (tm_l t).2.2.2.2.1) = true := by
            rw [hcc]
            unfold nwc
            rw [Int.toNat_natCast, hcT, Int.toNat_natCast]
            simpa using hn
          have eal : akf (al (fx g m) (nwc F r) (n + 1) p t) = (p, (c : Int)) :: akf (ls_al (al (fx g m) (nwc F r) n) (4 * p + 1) (tm_k t)) := by
            rw [al_u, if_neg (by omega), if_neg (by omega), if_neg (by omega), if_pos (Or.inr q1), if_neg hnwc, hcc, akf_ask (by show (c : Int) ≠ -1; omega)]
          rw [eal]
          have tw : twf F r (c : Int) = T := twf_con (by omega) hcT
          obtain ⟨y5, y6, y7⟩ := al_list (F := F) (aT := aT) (r := r) (m := m) (g := g) (bd := bd) (P0 := p) (fun p' w' t' h1 h2 h3 h4 => ih bd p' w' t' h1 h2 h3 h4) (tm_k t) (4 * p + 1) (fun i => aT (3 * c + i)) (Nat.le_refl _) (by omega) hb2 q3 y3
          have off : ∀ y ∈ akf (ls_al (al (fx g m) (nwc F r) n) (4 * p + 1) (tm_k t)), y.1 ≠ p := by
            intro y hy e
            obtain ⟨i, i1, i2⟩ := y5 y hy
            have := i2.1
            rw [e] at this
            exact un_down this
          refine ⟨fun x hx => ?_, fun x hx y hy e => ?_, fun P hP => ⟨hP, y7 _ (fun i hi _ => ⟨(c : Int), ?_⟩)⟩⟩
          · rcases List.mem_cons.mp hx with q | q
            · subst q
              refine ⟨un_refl, Or.inl ⟨by show (0 : Int) ≤ (c : Int); omega, by show (c : Int) < (m : Int); omega⟩, hb3, fun _ => ⟨0, fun j hj => absurd hj (Nat.not_lt_zero j), ?_, ?_⟩, fun h => absurd rfl h⟩
              · rintro ⟨-, h2⟩
                have h2 : F (r + 2) w.toNat = 1 := h2
                rw [wT] at h2
                exact hn h2
              · show ((twf F r (c : Int) : Nat) : Int) = w
                rw [tw, wT]
            · obtain ⟨i, i1, z1, z2, z3, z4, z5⟩ := y5 x q
              refine ⟨un_child (by omega) z1, z2, z3, fun e => absurd e (off x q), fun _ => ?_⟩
              by_cases e : x.1 = 4 * p + 1 + i
              · refine ⟨c, ?_, ?_⟩
                · rw [e, pr_kid (by omega)]; exact List.mem_cons_self
                · have z := z4 e
                  rw [e, pr_kid (by omega), show 4 * p + 1 + i - 4 * p - 1 = i by omega]
                  exact z
              · obtain ⟨c', g1, g2⟩ := z5 e
                exact ⟨c', List.mem_cons_of_mem _ g1, g2⟩
          · rcases List.mem_cons.mp hx with q | q <;> rcases List.mem_cons.mp hy with q' | q'
            · rw [q, q']
            · exact absurd (by rw [← e, q]) (off y q')
            · exact absurd (by rw [e, q']) (off x q)
            · exact y6 x q y q' e
          · rw [pr_kid (by omega)]; simp
end ALQ
