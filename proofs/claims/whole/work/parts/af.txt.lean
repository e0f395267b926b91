/-! TEXT: where tokens stand, what a set's reading gives -/
section TXP
variable {kd pl nu nm : Nat → Int} {c : Nat}
theorem tk_nx (he : kd c = 0 ∨ kd c = 1) {i : Nat} (hi : i ≤ c) (h0 : kd i ≠ 0) (h1 : kd i ≠ 1) : i + 1 ≤ c := by
  rcases Nat.lt_or_ge i c with h | h
  · omega
  · have e : i = c := by omega
    subst e
    omega
theorem tk_ru (he : kd c = 0 ∨ kd c = 1) : ∀ (a i : Nat), i ≤ c → (∀ z : Nat, z < a → kd (i + z) = 2) → i + a ≤ c := by
  intro a
  induction a with
  | zero => intro i hi _; omega
  | succ a ih =>
    intro i hi h
    have h0 := h 0 (by omega)
    have e0 : kd i = 2 := h0
    have := tk_nx he hi (by omega) (by omega)
    have := ih (i + 1) this (fun z hz => by rw [show i + 1 + z = i + (z + 1) by omega]; exact h (z + 1) (by omega))
    omega
theorem cs_le (he : kd c = 0 ∨ kd c = 1) : ∀ (as : List Nat) (q : Nat), q ≤ c → cs_sp kd q as → q + cs_sz as ≤ c := by
  intro as
  induction as with
  | nil => intro q _ h; exact h.elim
  | cons a as ih =>
    intro q hq h
    obtain ⟨h1, h2, h3, h4⟩ := h
    have ez : cs_sz (a :: as) = (a + 2) + cs_sz as := rfl
    have l1 := tk_nx he hq (by omega) (by omega)
    have l2 := tk_ru he a (q + 1) l1 h3
    rcases h4 with ⟨e1, e2⟩ | ⟨e1, e2, e3⟩
    · have l3 := tk_nx he l2 (by omega) (by omega)
      rw [ez, e1]
      show q + (a + 2 + 0) ≤ c
      omega
    · have l3 := tk_nx he l2 (by omega) (by omega)
      have := ih (q + (a + 2)) (by omega) e3
      omega
theorem ts_le (he : kd c = 0 ∨ kd c = 1) : ∀ (ts : List ty) (p j : Nat), p ≤ c → ts_sp kd p ts j → j ≤ c := by
  intro ts
  induction ts with
  | nil =>
    intro p j hp h
    have e : p = j := h
    omega
  | cons t ts ih =>
    intro p j hp h
    obtain ⟨q, ⟨⟨t1, t2, t3, t4, t5, t6⟩, rfl⟩, h3⟩ := h
    have k1 : kd p ≠ 0 ∧ kd p ≠ 1 := by
      rw [t1]; cases t.1 <;> decide
    have l1 := tk_nx he hp k1.1 k1.2
    have l2 := tk_nx he l1 (by omega) (by omega)
    have l2 : p + 2 ≤ c := l2
    have l3 := tk_nx he l2 (by omega) (by omega)
    have l4 := cs_le he t.2 (p + 3) l3 t4
    have ey : ty_sz t = 3 + cs_sz t.2 := rfl
    exact ih _ j (by omega) h3
theorem ts_cn_le : ∀ (ts : List ty) (p j : Nat), ts_sp kd p ts j → ts_cn ts ≤ 6 * ts.length := by
  intro ts
  induction ts with
  | nil => intro p j _; exact Nat.le_refl _
  | cons t ts ih =>
    intro p j h
    obtain ⟨q, ⟨⟨t1, t2, t3, t4, t5, t6⟩, rfl⟩, h3⟩ := h
    have e : ts_cn (t :: ts) = t.2.length + ts_cn ts := rfl
    have := ih _ j h3
    rw [e, List.length_cons]
    omega
theorem rs_okl (hR : ft_R kd nu c) (hP : ∀ k : Nat, k ≤ c → 0 ≤ pl k) (hk : ∀ k : Nat, k < c → kd k ≠ 0 ∧ kd k ≠ 1) (he : kd c = 0 ∨ kd c = 1) : ∀ (ws : List rw0) (i j : Nat), i ≤ c → ls_sp (rw_sp kd pl nu nm) i ws j → (∀ w ∈ ws, rw_ok w ∧ ∀ t ∈ w.1, pkd 6 t) ∧ j ≤ c := by
  intro ws
  induction ws with
  | nil =>
    intro i j hi h
    have e : i = j := h
    exact ⟨fun w hw => absurd hw (by simp), by omega⟩
  | cons u ws ih =>
    intro i j hi h
    obtain ⟨q, ⟨u1, e, u2, u3, u4⟩, h2⟩ := h
    obtain ⟨a1, a2⟩ := ft_sp_okl hR hP hk he u.1 i e hi u2
    have qc : q ≤ c := by
      rcases u4 with ⟨-, b1, b2, b3⟩ | ⟨-, b1, b2⟩
      · have l1 := tk_nx he a2 (by omega) (by omega)
        have l2 := tk_nx he l1 (by omega) (by omega)
        omega
      · have l1 := tk_nx he a2 (by omega) (by omega)
        omega
    obtain ⟨b1, b2⟩ := ih q j qc h2
    refine ⟨fun w hw => ?_, b2⟩
    rcases List.mem_cons.mp hw with ew | ew
    · rw [ew]
      exact ⟨⟨u1, by rw [u3]; exact hP e a2, a1⟩, ls_sp_all (ft_sp_pk 6) u.1 i e u2⟩
    · exact b1 w ew
/-- all that a spelled set has -/
theorem st_all {t : st0} (hR : ft_R kd nu c) (hP : ∀ k : Nat, k ≤ c → 0 ≤ pl k) (hk : ∀ k : Nat, k < c → kd k ≠ 0 ∧ kd k ≠ 1) (he : kd c = 0 ∨ kd c = 1) (h : st_sp kd pl nu nm t) : t.1.length ≤ 6 ∧ ts_cn t.1 ≤ 36 ∧ ts_rg pl nu 0 t.1 ∧ 0 < t.2.1 ∧ t.2.1 ≤ 4 ∧ (∀ z : Nat, z < t.2.1 → (0 ≤ nu (ts_sz t.1 + 1 + z) ∧ nu (ts_sz t.1 + 1 + z) ≤ 25) ∧ 0 ≤ pl (ts_sz t.1 + 1 + z)) ∧ 0 < t.2.2.length ∧ t.2.2.length ≤ 12 ∧ (∀ w ∈ t.2.2, rw_ok w ∧ ∀ u ∈ w.1, pkd 6 u) ∧ rs_sz t.2.2 ≤ 60 ∧ ts_sz t.1 + 2 + t.2.1 ≤ c := by
  obtain ⟨s1, s2, s3, s4, ⟨c1, c2, c3, c4⟩, ⟨j, s6, s7⟩, s8, s9, s10⟩ := h
  have l1 := ts_le he t.1 0 (ts_sz t.1) (Nat.zero_le _) s1
  have l2 := tk_nx he l1 (by omega) (by omega)
  have l3 := tk_ru he t.2.1 (ts_sz t.1 + 1) l2 c3
  have l4 := tk_nx he l3 (by omega) (by omega)
  have l5 : ts_sz t.1 + 2 + t.2.1 ≤ c := by omega
  have cn := ts_cn_le t.1 0 _ s1
  refine ⟨s3, by omega, ts_rg_of hR hP t.1 0 _ s1 l1, c1, c2, fun z hz => ⟨(hR _ (by omega)).1 (c3 z hz), hP _ (by omega)⟩, ?_, s9, (rs_okl hR hP hk he t.2.2 _ j l5 s6).1, s10, l5⟩
  exact List.length_pos_iff.mpr s8
end TXP
set_option maxRecDepth 20000 in
theorem am_B_sw {K : Nat → am_K} {R : Nat → Nat → Option Nat} {x y : Option Nat} (h : am_B K R) : am_B K (am_u (am_u R 11 4 x) 11 5 y) := by
  refine ⟨h.1, fun q hq => ?_⟩
  have hn : ¬ (q.1 = 11 ∧ (q.2.1 = 4 ∨ q.2.1 = 5)) := by
    have : ∀ q ∈ am_Rl, ¬ (q.1 = 11 ∧ (q.2.1 = 4 ∨ q.2.1 = 5)) := by decide
    exact this q hq
  have := h.2 q hq
  unfold am_u
  by_cases e : q.1 = 11
  · rw [if_pos e, if_neg (by omega), if_pos e, if_neg (by omega)]; exact this
  · rw [if_neg e, if_neg e]; exact this
theorem am_R_sw {R : Nat → Nat → Option Nat} {x y : Option Nat} : am_u (am_u R 11 4 x) 11 5 y 11 4 = x ∧ am_u (am_u R 11 4 x) 11 5 y 11 5 = y := by
  constructor <;> simp [am_u]
