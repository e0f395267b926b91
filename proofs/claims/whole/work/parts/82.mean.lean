/-! MEANING: what both ask of types -/
/-- the first index of a name -/
def fx (g : Nat → Int) : Nat → Int → Int
  | 0, _ => -1
  | k + 1, x => if fx g k x ≠ -1 then fx g k x else if g k = x then (k : Int) else -1
theorem fx_none {g : Nat → Int} {x : Int} : ∀ k : Nat, (∀ j : Nat, j < k → g j ≠ x) → fx g k x = -1 := by
  intro k
  induction k with
  | zero => intro _; rfl
  | succ k ih =>
    intro h
    have e := ih (fun j hj => h j (by omega))
    show (if fx g k x ≠ -1 then fx g k x else if g k = x then (k : Int) else -1) = -1
    rw [e]; simp [h k (by omega)]
theorem fx_some {g : Nat → Int} {x : Int} : ∀ (k c : Nat), c < k → g c = x → (∀ j : Nat, j < c → g j ≠ x) → fx g k x = (c : Int) := by
  intro k
  induction k with
  | zero => intro c h; exact absurd h (Nat.not_lt_zero c)
  | succ k ih =>
    intro c hc hg hn
    show (if fx g k x ≠ -1 then fx g k x else if g k = x then (k : Int) else -1) = (c : Int)
    by_cases e : c = k
    · subst e
      rw [fx_none c hn]; simp [hg]
    · rw [ih c (by omega) hg hn]
      rw [if_pos (by omega)]
theorem fx_cases (g : Nat → Int) (x : Int) : ∀ k : Nat, (fx g k x = -1 ∧ ∀ j : Nat, j < k → g j ≠ x) ∨ ∃ c : Nat, c < k ∧ fx g k x = (c : Int) ∧ g c = x ∧ ∀ j : Nat, j < c → g j ≠ x := by
  intro k
  induction k with
  | zero => exact Or.inl ⟨rfl, fun j h => absurd h (Nat.not_lt_zero j)⟩
  | succ k ih =>
    rcases ih with ⟨h1, h2⟩ | ⟨c, h1, h2, h3, h4⟩
    · by_cases e : g k = x
      · exact Or.inr ⟨k, by omega, fx_some (k + 1) k (by omega) e h2, e, h2⟩
      · refine Or.inl ⟨fx_none (k + 1) (fun j hj => ?_), fun j hj => ?_⟩
        · by_cases ej : j = k
          · rw [ej]; exact e
          · exact h2 j (by omega)
        · by_cases ej : j = k
          · rw [ej]; exact e
          · exact h2 j (by omega)
    · exact Or.inr ⟨c, by omega, fx_some (k + 1) c (by omega) h3 h4, h3, h4⟩
/-- the type of a letter: the first that is told; I stands behind them -/
def lx (g : Nat → Int) (k : Nat) (l : Int) : Int := if l = 8 then 6 else fx g k l
def oe (o o' : Option Int) : Option Int := match o with
  | some k => some k
  | none => o'
section TF
variable (tyf cof : Int → Int) (pl nu nm : Nat → Int)
def arf : Nat → Nat → Option Int
  | _, 0 => none
  | x, a + 1 => if tyf (nu x) = -1 then some (pl x) else arf (x + 1) a
def csf : Nat → Nat → List Nat → Option Int
  | _, _, [] => none
  | C, q, a :: as => if cof (nm q) ≠ (C : Int) then some (pl q) else oe (arf tyf pl nu (q + 1) a) (csf (C + 1) (q + (a + 2)) as)
def tsf : Nat → Nat → Nat → List ty → Option Int
  | _, _, _, [] => none
  | T, C, p, t :: ts => if tyf (nu (p + 1)) ≠ (T : Int) then some (pl (p + 1)) else oe (csf tyf cof pl nu nm C (p + 3) t.2) (tsf (T + 1) (C + t.2.length) (p + ty_sz t) ts)
end TF
def oi (o : Option Int) : Int := match o with
  | none => -1
  | some k => k
/-- the arguments' types, once asked for -/
def ca_ok (tyf : Int → Int) (I : Nat → Nat → Int) (r : Nat) (nu : Nat → Int) : Nat → Nat → List Nat → Prop
  | _, _, [] => True
  | C, q, a :: as => (∀ z : Nat, z < a → I (r + 8) (3 * C + z) = tyf (nu (q + 1 + z)) ∧ tyf (nu (q + 1 + z)) ≠ -1) ∧ ca_ok tyf I r nu (C + 1) (q + (a + 2)) as
def ta_ok (tyf : Int → Int) (I : Nat → Nat → Int) (r : Nat) (nu : Nat → Int) : Nat → Nat → List ty → Prop
  | _, _, [] => True
  | C, p, t :: ts => ca_ok tyf I r nu C (p + 3) t.2 ∧ ta_ok tyf I r nu (C + t.2.length) (p + ty_sz t) ts
def xf_fr (r : Nat) (I I' : Nat → Nat → Int) : Prop := ∀ a j : Nat, a ≠ r + 8 → a ≠ r + 14 → I' a j = I a j
section XM
variable {d n : Nat} {K : Nat → am_K} {I J : Nat → Nat → Int} {R : Nat → Nat → Option Nat} {Q : am_Q} {pl nu nm : Nat → Int} {r : Nat}
theorem x_typeOf {x : Int} {f : Int → Int} (hB : am_B K R) (hr : r = 41 ∨ r = 71) (hx : 0 ≤ x ∧ x ≤ 25) (hf : ∀ l : Nat, l < 26 → I (r + 14) l = f (l : Int)) (post : Q (some (.inl (f x))) (n, K, I, J, R)) : am_WP d (am_entry 167 [.inr (.inl (r + 1)), .inl x] (n, K, I, J, R)) Q := by
  have k0 : K (r + 1) = .inl 10 := am_kq (i := 1) hB hr (by decide) rfl
  obtain ⟨l, rfl⟩ : ∃ l : Nat, x = (l : Int) := ⟨x.toNat, by omega⟩
  refine e_Types_typeOf ⟨fun h => absurd h (by omega), fun _ => ⟨fun h => absurd h (by omega), fun _ => ⟨k0, r + 14, am_rq (i := 1) hB hr rfl rfl, _, am_kq hB hr (by decide) rfl, ⟨by omega, by omega⟩, am_nm_k (hf l (by omega)) ?_⟩⟩⟩
  rintro _ rfl _ _
  exact s_Types_typeOf_20 post
theorem x_conOf {x : Int} {m : Nat} (hB : am_B K R) (hr : r = 41 ∨ r = 71) (hm : I (r + 1) 1 = (m : Int)) (hm2 : m ≤ 36) (post : Q (some (.inl (fx (J (r + 7)) m x))) (n, K, I, J, R)) : am_WP d (am_entry 168 [.inr (.inl (r + 1)), .inr (.inr (some x))] (n, K, I, J, R)) Q := by
  have k0 : K (r + 1) = .inl 10 := am_kq (i := 1) hB hr (by decide) rfl
  have loop : ∀ (u c : Nat), c + u = m → (∀ j : Nat, j < c → J (r + 7) j ≠ x) → am_WP d (168, 2, [.inr (.inl (r + 1)), .inr (.inr (some x)), am_o, .inl (c : Int)], [], (0, 0), n, K, I, J, R) Q := by
    intro u
    induction u with
    | zero =>
      intro c hu hc
      refine s_Types_conOf_2 ⟨k0, am_nm_k hm ?_⟩
      rintro _ rfl _ _
      refine ⟨fun _ => ?_, fun h => absurd h (by omega)⟩
      rw [fx_none m (fun j hj => hc j (by omega))] at post
      exact post
    | succ u ih =>
      intro c hu hc
      refine s_Types_conOf_2 ⟨k0, am_nm_k hm ?_⟩
      rintro _ rfl _ _
      refine ⟨fun h => absurd h (by omega), fun _ => ⟨k0, r + 7, am_rq (i := 1) hB hr rfl rfl, _, by unfold am_nc; omega, am_kq hB hr (by decide) rfl, ⟨by omega, by omega⟩, fun z3 hz3 _ _ z5 hz5 _ _ => ⟨fun h => am_ar_i (by omega) (by omega) (ih (c + 1) (by omega) (fun j hj => ?_)), fun h => ?_⟩⟩⟩
      · by_cases e : j = c
        · rw [e]
          intro q
          apply h
          rw [hz5, am_lc0, hz3]
          exact q
        · exact hc j (by omega)
      · rw [hz5, am_lc0, hz3] at h
        rw [fx_some m c (by omega) h hc] at post
        exact post
  exact e_Types_conOf (loop m 0 (by omega) (fun j hj => absurd hj (Nat.not_lt_zero j)))
theorem x_nameTypes {m : Nat} (hB : am_B K R) (hr : r = 41 ∨ r = 71) (hm : I (r + 1) 0 = (m : Int)) (hm2 : m ≤ 6) (hl : ∀ T : Nat, T < m → 0 ≤ I (r + 9) T ∧ I (r + 9) T ≤ 25) (post : ∀ I' : Nat → Nat → Int, (∀ a j : Nat, a ≠ r + 14 → I' a j = I a j) → (∀ l : Nat, l < 26 → I' (r + 14) l = lx (I (r + 9)) m (l : Int)) → Q none (n, K, I', J, R)) : am_WP d (am_entry 170 [.inr (.inl (r + 1))] (n, K, I, J, R)) Q := by
  have k0 : K (r + 1) = .inl 10 := am_kq (i := 1) hB hr (by decide) rfl
  have k14 : K (r + 14) = .inr (0, 26) := am_kq (i := 14) hB hr (by decide) rfl
  have nb : am_nc ≤ r + 14 := by unfold am_nc; omega
  have loop2 : ∀ (u T : Nat) (I' : Nat → Nat → Int) (w : am_V), T + u = m → (∀ a j : Nat, a ≠ r + 14 → I' a j = I a j) → (∀ l : Nat, l < 26 → I' (r + 14) l = lx (I (r + 9)) T (l : Int)) → am_WP d (170, 32, [.inr (.inl (r + 1)), .inl (T : Int), am_o], [], (0, 0), n, K, I', J, R) Q := by
    intro u
    induction u with
    | zero =>
      intro T I' w hu hf hL
      have eT : T = m := by omega
      subst eT
      refine s_Types_nameTypes_32 ⟨k0, am_nm_k ((hf _ _ (by omega)).trans hm) ?_⟩
      rintro _ rfl _ _
      exact ⟨fun _ => post I' hf hL, fun h => absurd h (by omega)⟩
    | succ u ih =>
      intro T I' w hu hf hL
      have hlT := hl T (by omega)
      obtain ⟨x, hx⟩ : ∃ x : Nat, I (r + 9) T = (x : Int) := ⟨(I (r + 9) T).toNat, by omega⟩
      have fg : ∀ (I'' : Nat → Nat → Int), am_WP d (170, 32, [.inr (.inl (r + 1)), .inl ((T + 1 : Nat) : Int), am_o], [], (0, 0), n, K, I'', J, R) Q → am_WP d (170, 32, [.inr (.inl (r + 1)), .inl ((T : Int) + 1), .inl (x : Int)], [], (0, 0), n, K, I'', J, R) Q := fun I'' h => am_WP.forget h _ (am_le_eq (am_le_eq (am_le_o am_le_nil)))
      refine s_Types_nameTypes_32 ⟨k0, am_nm_k ((hf _ _ (by omega)).trans hm) ?_⟩
      rintro _ rfl _ _
      refine ⟨fun h => absurd h (by omega), fun _ => ⟨k0, r + 9, am_rq (i := 1) hB hr rfl rfl, _, am_kq hB hr (by decide) rfl, ⟨by omega, by omega⟩, am_nm_k ((hf _ _ (by omega)).trans hx) ?_⟩⟩
      rintro _ rfl _ _
      refine ⟨fun h => absurd h (by omega), fun _ => ⟨fun h => absurd h (by omega), fun _ => ⟨k0, r + 14, am_rq (i := 1) hB hr rfl rfl, _, k14, ⟨by omega, by omega⟩, am_nm_k (hL x (by omega)) ?_⟩⟩⟩
      rintro _ rfl _ _
      refine ⟨fun h => am_ar_i (by omega) (by omega) (fg _ (ih (T + 1) I' w (by omega) hf (fun l hl => ?_))), fun h => ⟨k0, r + 14, am_rq (i := 1) hB hr rfl rfl, _, nb, k14, ⟨by omega, by omega⟩, am_ar_i (by omega) (by omega) (fg _ (ih (T + 1) _ w (by omega) (fun a j ha => (am_u_ne ha).trans (hf a j ha)) (fun l hl => ?_)))⟩⟩
      · rw [hL l hl]
        unfold lx
        by_cases e8 : (l : Int) = 8
        · rw [if_pos e8, if_pos e8]
        · rw [if_neg e8, if_neg e8]
          show _ = (if fx (I (r + 9)) T (l : Int) ≠ -1 then fx (I (r + 9)) T (l : Int) else if I (r + 9) T = (l : Int) then (T : Int) else -1)
          by_cases e : fx (I (r + 9)) T (l : Int) = -1
          · have n1 : I (r + 9) T ≠ (l : Int) := by
              intro q
              apply h
              unfold lx
              rw [hx] at q
              rw [q, if_neg e8, e]
            rw [e]; simp [n1]
          · rw [if_pos e]
      · show am_u I' (r + 14) x (T : Int) (r + 14) l = _
        unfold lx at h
        have x8 : (x : Int) ≠ 8 := by
          intro q
          rw [if_pos q] at h
          exact absurd h (by decide)
        rw [if_neg x8] at h
        by_cases e : l = x
        · subst e
          rw [am_u_kk]
          unfold lx
          rw [if_neg x8]
          show _ = (if fx (I (r + 9)) T (l : Int) ≠ -1 then fx (I (r + 9)) T (l : Int) else if I (r + 9) T = (l : Int) then (T : Int) else -1)
          rw [h, hx]; simp
        · rw [am_u_kn e, hL l hl]
          unfold lx
          by_cases e8 : (l : Int) = 8
          · rw [if_pos e8, if_pos e8]
          · rw [if_neg e8, if_neg e8]
            show _ = (if fx (I (r + 9)) T (l : Int) ≠ -1 then fx (I (r + 9)) T (l : Int) else if I (r + 9) T = (l : Int) then (T : Int) else -1)
            have n1 : I (r + 9) T ≠ (l : Int) := by rw [hx]; omega
            by_cases e : fx (I (r + 9)) T (l : Int) = -1
            · rw [e]; simp [n1]
            · rw [if_pos e]
  have loop1 : ∀ (u x : Nat) (I' : Nat → Nat → Int), x + u = 26 → (∀ a j : Nat, a ≠ r + 14 → I' a j = I a j) → (∀ l : Nat, l < x → I' (r + 14) l = -1) → am_WP d (170, 2, [.inr (.inl (r + 1)), .inl (x : Int), am_o], [], (0, 0), n, K, I', J, R) Q := by
    intro u
    induction u with
    | zero =>
      intro x I' hu hf hL
      refine s_Types_nameTypes_2 ⟨fun _ => ⟨k0, r + 14, am_rq (i := 1) hB hr rfl rfl, _, nb, k14, ⟨by decide, by decide⟩, loop2 m 0 _ (.inl 0) (by omega) (fun a j ha => (am_u_ne ha).trans (hf a j ha)) (fun l hl => ?_)⟩, fun h => absurd h (by omega)⟩
      show am_u I' (r + 14) 8 6 (r + 14) l = lx _ 0 (l : Int)
      by_cases e : l = 8
      · subst e; rw [am_u_kk]; rfl
      · rw [am_u_kn e, hL l (by omega)]
        unfold lx
        rw [if_neg (by omega)]; rfl
    | succ u ih =>
      intro x I' hu hf hL
      refine s_Types_nameTypes_2 ⟨fun h => absurd h (by omega), fun _ => ⟨k0, r + 14, am_rq (i := 1) hB hr rfl rfl, _, nb, k14, ⟨by omega, by omega⟩, am_ar_i (by omega) (by omega) (ih (x + 1) _ (by omega) (fun a j ha => (am_u_ne ha).trans (hf a j ha)) (fun l hl => ?_))⟩⟩
      show am_u I' (r + 14) x (-1) (r + 14) l = -1
      by_cases e : l = x
      · subst e; exact am_u_kk
      · rw [am_u_kn e]; exact hL l (by omega)
  exact e_Types_nameTypes (loop1 26 0 I rfl (fun _ _ _ => rfl) (fun l hl => absurd hl (Nat.not_lt_zero l)))
theorem x_args {C q a : Nat} {tyf : Int → Int} (hB : am_B K R) (hr : r = 41 ∨ r = 71) (hC : C < 36) (ha : I (r + 6) C = (a : Int)) (ha3 : a ≤ 3) (hA : ∀ z : Nat, z < a → I (r + 12) (3 * C + z) = nu (q + 1 + z) ∧ I (r + 13) (3 * C + z) = pl (q + 1 + z)) (hR : ∀ z : Nat, z < a → 0 ≤ nu (q + 1 + z) ∧ nu (q + 1 + z) ≤ 25) (hf : ∀ l : Nat, l < 26 → I (r + 14) l = tyf (l : Int)) (post : ∀ I' : Nat → Nat → Int, (∀ x j : Nat, ¬ (x = r + 8 ∧ 3 * C ≤ j ∧ j < 3 * C + 3) → I' x j = I x j) → (arf tyf pl nu (q + 1) a = none → ∀ z : Nat, z < a → I' (r + 8) (3 * C + z) = tyf (nu (q + 1 + z)) ∧ tyf (nu (q + 1 + z)) ≠ -1) → Q (some (.inl (oi (arf tyf pl nu (q + 1) a)))) (n, K, I', J, R)) : am_WP (d + 1) (am_entry 171 [.inr (.inl (r + 1)), .inl (C : Int)] (n, K, I, J, R)) Q := by
  have k0 : K (r + 1) = .inl 10 := am_kq (i := 1) hB hr (by decide) rfl
  have nb : am_nc ≤ r + 8 := by unfold am_nc; omega
  have e3 : (C : Int) * 3 = ((3 * C : Nat) : Int) := by omega
  have loop : ∀ (u z : Nat) (I' : Nat → Nat → Int), z + u = a → (∀ x j : Nat, ¬ (x = r + 8 ∧ 3 * C ≤ j ∧ j < 3 * C + 3) → I' x j = I x j) → (∀ y : Nat, y < z → I' (r + 8) (3 * C + y) = tyf (nu (q + 1 + y)) ∧ tyf (nu (q + 1 + y)) ≠ -1) → arf tyf pl nu (q + 1) a = arf tyf pl nu (q + 1 + z) u → am_WP (d + 1) (171, 6, [.inr (.inl (r + 1)), .inl (C : Int), .inl ((3 * C : Nat) : Int), .inl ((3 * C + z : Nat) : Int)], [], (0, 0), n, K, I', J, R) Q := by
    intro u
    induction u with
    | zero =>
      intro z I' hu hfr hz he
      refine s_Types_findFaultInArgs_6 ⟨k0, r + 6, am_rq (i := 1) hB hr rfl rfl, _, am_kq hB hr (by decide) rfl, ⟨by omega, by omega⟩, am_nm_k ((hfr _ _ (by omega)).trans ha) ?_⟩
      rintro _ rfl _ _
      refine am_ar_i (by omega) (by omega) ⟨fun _ => ?_, fun h => absurd h (by omega)⟩
      have := post I' hfr (fun _ y hy => hz y (by omega))
      rw [he] at this
      exact this
    | succ u ih =>
      intro z I' hu hfr hz he
      have hr2 := hR z (by omega)
      refine s_Types_findFaultInArgs_6 ⟨k0, r + 6, am_rq (i := 1) hB hr rfl rfl, _, am_kq hB hr (by decide) rfl, ⟨by omega, by omega⟩, am_nm_k ((hfr _ _ (by omega)).trans ha) ?_⟩
      rintro _ rfl _ _
      refine am_ar_i (by omega) (by omega) ⟨fun h => absurd h (by omega), fun _ => ⟨k0, r + 8, am_rq (i := 1) hB hr rfl rfl, k0, r + 12, am_rq (i := 1) hB hr rfl rfl, _, am_kq hB hr (by decide) rfl, ⟨by omega, by omega⟩, am_nm_k ((hfr _ _ (by omega)).trans (hA z (by omega)).1) ?_⟩⟩
      rintro _ rfl _ _
      refine ⟨k0, x_typeOf hB hr hr2 (fun l hl => (hfr _ _ (by omega)).trans (hf l hl)) ⟨_, rfl, s_Types_findFaultInArgs_33 ⟨_, nb, am_kq hB hr (by decide) rfl, ⟨by omega, by omega⟩, k0, r + 8, am_rq (i := 1) hB hr rfl rfl, _, am_kq hB hr (by decide) rfl, ⟨by omega, by omega⟩, am_nm_k am_u_kk ?_⟩⟩⟩
      rintro _ rfl _ _
      have f2 : ∀ x j : Nat, ¬ (x = r + 8 ∧ 3 * C ≤ j ∧ j < 3 * C + 3) → am_u I' (r + 8) (3 * C + z) (tyf (nu (q + 1 + z))) x j = I x j := fun x j h => (am_u_off (by omega)).trans (hfr x j h)
      refine ⟨fun h => am_ar_i (by omega) (by omega) ?_, fun h => ⟨k0, r + 13, am_rq (i := 1) hB hr rfl rfl, _, am_kq hB hr (by decide) rfl, ⟨by omega, by omega⟩, am_nm_k ((f2 _ _ (by omega)).trans (hA z (by omega)).2) ?_⟩⟩
      · refine ih (z + 1) _ (by omega) f2 (fun y hy => ?_) ?_
        · by_cases e : y = z
          · subst e; exact ⟨am_u_kk, h⟩
          · exact ⟨(am_u_kn (by omega)).trans (hz y (by omega)).1, (hz y (by omega)).2⟩
        · rw [he]
          show (if tyf (nu (q + 1 + z)) = -1 then some (pl (q + 1 + z)) else arf tyf pl nu (q + 1 + z + 1) u) = _
          rw [if_neg h]; rfl
      · rintro _ rfl _ _
        have e2 : arf tyf pl nu (q + 1) a = some (pl (q + 1 + z)) := by
          rw [he]
          show (if tyf (nu (q + 1 + z)) = -1 then some (pl (q + 1 + z)) else arf tyf pl nu (q + 1 + z + 1) u) = _
          rw [if_pos h]
        have := post _ f2 (fun h' => absurd (e2.symm.trans h') (by simp))
        rw [e2] at this
        exact this
  refine e_Types_findFaultInArgs (am_ar_i (by omega) (by omega) ?_)
  rw [e3]
  exact loop a 0 I (by omega) (fun _ _ _ => rfl) (fun y hy => absurd hy (Nat.not_lt_zero y)) rfl
end XM
