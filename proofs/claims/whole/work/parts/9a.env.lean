/-! WHAT A SET WITHOUT FAULT HAS -/
theorem oe_none {o o' : Option Int} (h : oe o o' = none) : o = none ∧ o' = none := by
  cases o with
  | none => exact ⟨rfl, h⟩
  | some k => exact absurd h (by simp [oe])
theorem arf_ok {tyf : Int → Int} {pl nu : Nat → Int} : ∀ (a x : Nat), arf tyf pl nu x a = none → ∀ z : Nat, z < a → tyf (nu (x + z)) ≠ -1 := by
  intro a
  induction a with
  | zero => intro x _ z hz; exact absurd hz (Nat.not_lt_zero z)
  | succ a ih =>
    intro x h z hz
    have h' : (if tyf (nu x) = -1 then some (pl x) else arf tyf pl nu (x + 1) a) = none := h
    by_cases e : tyf (nu x) = -1
    · rw [if_pos e] at h'; exact absurd h' (by simp)
    · rw [if_neg e] at h'
      by_cases ez : z = 0
      · rw [ez]; exact e
      · have := ih (x + 1) h' (z - 1) (by omega)
        rw [show x + 1 + (z - 1) = x + z by omega] at this
        exact this
section RE
variable {kd pl nu nm : Nat → Int} {F G A : Nat → Nat → Int} {r : Nat} {tyf cof : Int → Int}
theorem con_all {T : Nat} : ∀ (as : List Nat) (C q : Nat), xs_cons F G r pl nu nm T C q as → cs_rg pl nu q as → ca_ok tyf A r nu C q as → ∀ c : Nat, C ≤ c → c < C + as.length → F (r + 5) c = (T : Int) ∧ (0 ≤ F (r + 6) c ∧ F (r + 6) c ≤ 3) ∧ ∀ z : Nat, (z : Int) < F (r + 6) c → (0 ≤ F (r + 12) (3 * c + z) ∧ F (r + 12) (3 * c + z) ≤ 25) ∧ A (r + 8) (3 * c + z) = tyf (F (r + 12) (3 * c + z)) ∧ A (r + 8) (3 * c + z) ≠ -1 := by
  intro as
  induction as with
  | nil => intro C q _ _ _ c h1 h2; exact absurd h2 (by show ¬ (c < C + 0); omega)
  | cons a as ih =>
    intro C q hx hg ha c h1 h2
    have h2 : c < C + (as.length + 1) := h2
    obtain ⟨x1, x2, x3, x4, x5, x6⟩ := hx
    obtain ⟨g1, g2, g3, g4⟩ := hg
    by_cases e : c = C
    · subst e
      refine ⟨x1, by omega, fun z hz => ?_⟩
      rw [x2] at hz
      have e5 := (x5 z (by omega)).1
      have a1 := ha.1 z (by omega)
      have r3 := (g3 z (by omega)).1
      rw [e5]
      exact ⟨r3, a1.1, by rw [a1.1]; exact a1.2⟩
    · exact ih (C + 1) (q + (a + 2)) x6 g4 ha.2 c (by omega) (by omega)
theorem ty_all {j : Nat} : ∀ (ts : List ty) (T C p : Nat), xs_types F G r pl nu nm T C p ts → ts_rg pl nu p ts → tsf tyf cof pl nu nm T C p ts = none → ta_ok tyf A r nu C p ts → ts_sp kd p ts j → (∀ T' : Nat, T ≤ T' → T' < T + ts.length → tyf (F (r + 9) T') = (T' : Int) ∧ (0 ≤ F (r + 9) T' ∧ F (r + 9) T' ≤ 25) ∧ (F (r + 2) T' = 0 ∨ F (r + 2) T' = 1) ∧ ∃ fc kc : Nat, F (r + 3) T' = (fc : Int) ∧ F (r + 4) T' = (kc : Int) ∧ 0 < kc ∧ kc ≤ 6 ∧ C ≤ fc ∧ fc + kc ≤ C + ts_cn ts ∧ (∀ c : Nat, C ≤ c → c < C + ts_cn ts → (F (r + 5) c = (T' : Int) ↔ fc ≤ c ∧ c < fc + kc)) ∧ (F (r + 2) T' = 1 → F (r + 6) fc = 1 ∧ kc = 1)) ∧ ∀ c : Nat, C ≤ c → c < C + ts_cn ts → (∃ T' : Nat, T ≤ T' ∧ T' < T + ts.length ∧ F (r + 5) c = (T' : Int)) ∧ (0 ≤ F (r + 6) c ∧ F (r + 6) c ≤ 3) ∧ ∀ z : Nat, (z : Int) < F (r + 6) c → (0 ≤ F (r + 12) (3 * c + z) ∧ F (r + 12) (3 * c + z) ≤ 25) ∧ A (r + 8) (3 * c + z) = tyf (F (r + 12) (3 * c + z)) ∧ A (r + 8) (3 * c + z) ≠ -1 := by
  intro ts
  induction ts with
  | nil =>
    intro T C p _ _ _ _ _
    exact ⟨fun T' h1 h2 => absurd h2 (by show ¬ (T' < T + 0); omega), fun c h1 h2 => absurd h2 (by show ¬ (c < C + 0); omega)⟩
  | cons t ts ih =>
    intro T C p hx hg hf ha hsp
    obtain ⟨q, ⟨hty, rfl⟩, hrest⟩ := hsp
    obtain ⟨t1, t2, t3, t4, t5, t6⟩ := hty
    obtain ⟨x1, x2, x3, x4, x5, x6, x7⟩ := hx
    obtain ⟨g1, g2, g3, g4⟩ := hg
    have hf' : (if tyf (nu (p + 1)) ≠ (T : Int) then some (pl (p + 1)) else oe (csf tyf cof pl nu nm C (p + 3) t.2) (tsf tyf cof pl nu nm (T + 1) (C + t.2.length) (p + ty_sz t) ts)) = none := hf
    have heq : tyf (nu (p + 1)) = (T : Int) := by
      rcases Decidable.em (tyf (nu (p + 1)) = (T : Int)) with h | h
      · exact h
      · rw [if_pos h] at hf'; exact absurd hf' (by simp)
    rw [if_neg (fun h => h heq)] at hf'
    obtain ⟨-, hf2⟩ := oe_none hf'
    obtain ⟨i1, i2⟩ := ih (T + 1) (C + t.2.length) (p + ty_sz t) x7 g4 hf2 ha.2 hrest
    have ec : ts_cn (t :: ts) = t.2.length + ts_cn ts := rfl
    have l0 : 0 < t.2.length := by
      rcases ht : t.2 with _ | ⟨a, as⟩
      · rw [ht] at t4; exact t4.elim
      · show 0 < as.length + 1; omega
    have hc := con_all (tyf := tyf) (A := A) t.2 C (p + 3) x6 g3 ha.1
    refine ⟨fun T' h1 h2 => ?_, fun c h1 h2 => ?_⟩
    · have h2 : T' < T + (ts.length + 1) := h2
      by_cases e : T' = T
      · subst e
        refine ⟨by rw [x1]; exact heq, by rw [x1]; exact g1, ?_, C, t.2.length, x4, x5, l0, t5, Nat.le_refl _, by omega, fun c h3 h4 => ?_, fun hn => ?_⟩
        · rw [x3]; cases t.1
          · exact Or.inl rfl
          · exact Or.inr rfl
        · by_cases e2 : c < C + t.2.length
          · exact ⟨fun _ => ⟨h3, e2⟩, fun _ => (hc c h3 e2).1⟩
          · obtain ⟨⟨T2, q1, q2, q3⟩, -⟩ := i2 c (by omega) (by omega)
            constructor
            · intro q; rw [q3] at q; omega
            · intro q; omega
        · have hb : t.1 = true := by
            rw [x3] at hn
            cases hb : t.1
            · rw [hb] at hn; exact absurd hn (by decide)
            · rfl
          have ht := t6 hb
          rw [ht] at x6
          exact ⟨x6.2.1, by rw [ht]; rfl⟩
      · obtain ⟨a1, a2, a3, fc, kc, a4, a5, a6, a7, a8, a9, a10, a11⟩ := i1 T' (by omega) (by omega)
        refine ⟨a1, a2, a3, fc, kc, a4, a5, a6, a7, by omega, by omega, fun c h3 h4 => ?_, a11⟩
        by_cases e2 : c < C + t.2.length
        · have := (hc c h3 e2).1
          constructor
          · intro q; rw [this] at q; omega
          · intro q; omega
        · exact a10 c (by omega) (by omega)
    · by_cases e2 : c < C + t.2.length
      · obtain ⟨b1, b2, b3⟩ := hc c h1 e2
        exact ⟨⟨T, Nat.le_refl _, by show T < T + (ts.length + 1); omega, b1⟩, b2, b3⟩
      · obtain ⟨⟨T2, q1, q2, q3⟩, b2⟩ := i2 c (by omega) (by omega)
        exact ⟨⟨T2, by omega, by show T2 < T + (ts.length + 1); omega, q3⟩, b2⟩
end RE
/-- the types' tables -/
def tyS (F : Nat → Nat → Int) (r N m : Nat) : Prop := ∀ T : Nat, T < N → ∃ fc kc : Nat, F (r + 3) T = (fc : Int) ∧ F (r + 4) T = (kc : Int) ∧ 0 < kc ∧ kc ≤ 6 ∧ fc + kc ≤ m ∧ (∀ c : Nat, c < m → (F (r + 5) c = (T : Int) ↔ fc ≤ c ∧ c < fc + kc)) ∧ (F (r + 2) T = 1 → F (r + 6) fc = 1 ∧ kc = 1)
theorem rE_of {kd pl nu nm : Nat → Int} {I I' J : Nat → Nat → Int} {r s c : Nat} {t : st0} (hs : s < 2) (hsp : st_sp kd pl nu nm t) (hx : xst pl nu nm I J r t) (hg : ts_rg pl nu 0 t.1) (h36 : ts_cn t.1 ≤ 36) (hR : ft_R kd nu c) (hc : ts_sz t.1 + 2 + t.2.1 ≤ c) (he : xm_env pl nu nm I I' J r t) : rE I (I' (r + 8)) (I' (r + 26)) r s t.1.length (ts_cn t.1) t.2.1 ∧ tyS I r t.1.length (ts_cn t.1) := by
  obtain ⟨s1, s2, s3, s4, s5, -⟩ := hsp
  obtain ⟨x1, x2, x3, x4, x5, -⟩ := hx
  obtain ⟨e1, e2, e3, e4⟩ := he
  obtain ⟨a1, a2⟩ := ty_all (F := I) (A := I') t.1 0 0 0 x3 hg e1 e2 s1
  refine ⟨⟨hs, s3, h36, s5.2.1, fun T hT => ?_, fun c' hc' => ?_, fun z hz => ?_⟩, fun T hT => ?_⟩
  · obtain ⟨b1, b2, b3, -⟩ := a1 T (Nat.zero_le _) (by omega)
    exact ⟨b1, b2.1, b2.2, b3⟩
  · obtain ⟨⟨T, q1, q2, q3⟩, b2, b3⟩ := a2 c' (Nat.zero_le _) (by omega)
    refine ⟨⟨T, by omega, q3, fun hn => ?_⟩, b2.1, b2.2, b3⟩
    obtain ⟨-, -, -, fc, kc, -, -, c1, c2, c3, c4, c5, c6⟩ := a1 T (Nat.zero_le _) (by omega)
    have h1 := (c5 c' (Nat.zero_le _) (by omega)).mp q3
    have h2 := c6 hn
    have : c' = fc := by omega
    rw [this]; exact h2.1
  · have hk := s5.2.2.1 z hz
    have hr := (hR (ts_sz t.1 + 1 + z) (by omega)).1 hk
    have h5 := (x5 z hz).1
    have h4 := e4 z hz
    have h3 := arf_ok _ _ e3 z hz
    rw [h5]
    exact ⟨hr, h4, by rw [h4]; exact h3⟩
  · obtain ⟨-, -, -, fc, kc, b1, b2, c1, c2, c3, c4, c5, c6⟩ := a1 T (Nat.zero_le _) (by omega)
    exact ⟨fc, kc, b1, b2, c1, c2, by omega, fun c' hc' => c5 c' (Nat.zero_le _) (by omega), c6⟩
