/-! SEARCH: what the reference tries next -/
def vdf (m : Nat) (v : Int) : Prop := (0 ≤ v ∧ v < (m : Int)) ∨ 100 ≤ v
def twf (F : Nat → Nat → Int) (r : Nat) (v : Int) : Nat := if v < 100 then (F (r + 5) v.toNat).toNat else 6
def cE (F : Nat → Nat → Int) (r s N m : Nat) (I : Nat → Nat → Int) : Prop := N ≤ 6 ∧ m ≤ 36 ∧ I 109 s = (m : Int) ∧ (∀ c : Nat, c < m → ∃ T : Nat, T < N ∧ F (r + 5) c = (T : Int) ∧ I 111 (36 * s + c) = F (r + 9) T) ∧ (∀ T : Nat, T < N → 0 ≤ F (r + 9) T ∧ F (r + 9) T ≤ 25) ∧ (∀ T T' : Nat, T < N → T' < N → F (r + 9) T = F (r + 9) T' → T = T') ∧ tyS F r N m
section NXP
variable (a : Nat → List (Nat × Int)) (nr : Nat) (S : Nat → Prop) (K : Nat → Int) (p : Nat)
def NCp (h c e : Nat) (I I2 : Nat → Nat → Int) (y : Int) : Prop := (y = -1 ∧ I2 = I ∧ ∀ c' : Nat, c ≤ c' → c' < e → ¬ wnd a nr S K p (c' : Int) ∧ I 134 h ≠ 0) ∨ ∃ c0 : Nat, y = (c0 : Int) ∧ c ≤ c0 ∧ c0 < e ∧ (∀ c' : Nat, c ≤ c' → c' < c0 → ¬ wnd a nr S K p (c' : Int) ∧ I 134 h ≠ 0) ∧ ((wnd a nr S K p (c0 : Int) ∧ I2 = I) ∨ (¬ wnd a nr S K p (c0 : Int) ∧ I 134 h = 0 ∧ I2 = am_u I 134 h 1))
def NNp (last y : Int) : Prop := (1000 ≤ last ∧ y = -1) ∨ (last < 1000 ∧ ((last < y ∧ 0 ≤ y ∧ y < 1000 ∧ wnd a nr S K p (100 + y) ∧ ∀ n' : Int, last < n' → n' < y → ¬ wnd a nr S K p (100 + n')) ∨ ((∀ n' : Int, last < n' → n' < 1000 → ¬ wnd a nr S K p (100 + n')) ∧ ∃ n : Int, 0 ≤ n ∧ n < 1000 ∧ y = 1000 + n ∧ ¬ wnd a nr S K p (100 + n) ∧ ∀ n' : Int, 0 ≤ n' → n' < n → wnd a nr S K p (100 + n'))))
end NXP
section MNX
variable {d n : Nat} {C : Nat → am_K} {J : Nat → Nat → Int} {R : Nat → Nat → Option Nat} {Q : am_Q} {A : Nat → List (Nat × Int)} {g : Nat → Bool} {s nr ah : Nat} {K : Nat → Int} {I F : Nat → Nat → Int} {r N m : Nat}
theorem m_nextCon {h p c T fc kc : Nat} (hB : am_B C R) (hE : sE A g s nr ah K I) (hC : cE F r s N m I) (hT : T < N) (hf : F (r + 3) T = (fc : Int)) (hk : F (r + 4) T = (kc : Int)) (hc1 : fc ≤ c) (hc2 : c ≤ fc + kc) (hh : h < 200) (hb : I 134 h = 0 ∨ I 134 h = 1) (post : ∀ (y : Int) (I2 : Nat → Nat → Int), NCp (ak A) nr (Sg g ah) K p h c (fc + kc) I I2 y → Q (some (.inl y)) (n, C, I2, J, R)) : am_WP (d + 2) (am_entry 63 [.inr (.inl 101), .inl (h : Int), .inl (p : Int), .inl (F (r + 9) T), .inl (c : Int)] (n, C, I, J, R)) Q := by
  have hE0 := hE
  obtain ⟨e1, e2, e3, e4, e5, e6, e7⟩ := hE
  obtain ⟨c1, c2, c3, c4, c5, c6, c7⟩ := hC
  obtain ⟨fc', kc', t1, t2, t3, t4, t5, t6, -⟩ := c7 T hT
  have q1 : fc' = fc := by have := t1.symm.trans hf; omega
  have q2 : kc' = kc := by have := t2.symm.trans hk; omega
  subst q1
  subst q2
  have loop : ∀ (u c1 : Nat), c1 + u = fc' + kc' → c ≤ c1 → (∀ c' : Nat, c ≤ c' → c' < c1 → ¬ wnd (ak A) nr (Sg g ah) K p (c' : Int) ∧ I 134 h ≠ 0) → am_WP (d + 2) (63, 4, [.inr (.inl 101), .inl (h : Int), .inl (p : Int), .inl (F (r + 9) T), .inl (c : Int), .inl (c1 : Int)], [], (0, 0), n, C, I, J, R) Q := by
    intro u
    induction u with
    | zero =>
      intro c1 hu hcc hno
      have fin : Q (some (.inl (-1))) (n, C, I, J, R) := post (-1) I (Or.inl ⟨rfl, rfl, fun c' a1 a2 => hno c' a1 (by omega)⟩)
      refine s_M_nextCon_4 ⟨(am_kk hB rfl), 109, (am_rf hB rfl), (am_kk hB rfl), am_nm_k e1 ?_⟩
      rintro _ rfl _ _
      refine ⟨_, (am_kk hB rfl), ⟨by omega, by omega⟩, am_nm_k c3 ?_⟩
      rintro _ rfl _ _
      refine ⟨fun _ => fin, fun hl => ⟨(am_kk hB rfl), 111, (am_rf hB rfl), (am_kk hB rfl), am_nm_k e1 ?_⟩⟩
      rintro _ rfl _ _
      refine am_ar_i (by omega) (by omega) (am_ar_i (by omega) (by omega) ?_)
      rw [show (36 : Int) * (s : Int) + (c1 : Int) = ((36 * s + c1 : Nat) : Int) by omega]
      obtain ⟨T', g1, g2, g3⟩ := c4 c1 (by omega)
      refine ⟨_, (am_kk hB rfl), ⟨by omega, by omega⟩, am_nm_k g3 ?_⟩
      rintro _ rfl _ _
      refine ⟨fun _ => fin, fun he => ?_⟩
      have := c6 T' T g1 hT he
      subst this
      have := (t6 c1 (by omega)).mp g2
      omega
    | succ u ih =>
      intro c1 hu hcc hno
      refine s_M_nextCon_4 ⟨(am_kk hB rfl), 109, (am_rf hB rfl), (am_kk hB rfl), am_nm_k e1 ?_⟩
      rintro _ rfl _ _
      refine ⟨_, (am_kk hB rfl), ⟨by omega, by omega⟩, am_nm_k c3 ?_⟩
      rintro _ rfl _ _
      refine ⟨fun h => absurd h (by omega), fun hl => ⟨(am_kk hB rfl), 111, (am_rf hB rfl), (am_kk hB rfl), am_nm_k e1 ?_⟩⟩
      rintro _ rfl _ _
      refine am_ar_i (by omega) (by omega) (am_ar_i (by omega) (by omega) ?_)
      rw [show (36 : Int) * (s : Int) + (c1 : Int) = ((36 * s + c1 : Nat) : Int) by omega]
      obtain ⟨T', g1, g2, g3⟩ := c4 c1 (by omega)
      have g4 := (t6 c1 (by omega)).mpr ⟨by omega, by omega⟩
      have g5 : T' = T := by have := g2.symm.trans g4; omega
      subst g5
      refine ⟨_, (am_kk hB rfl), ⟨by omega, by omega⟩, am_nm_k g3 ?_⟩
      rintro _ rfl _ _
      refine ⟨fun h => absurd rfl h, fun _ => ⟨(am_kk hB rfl), m_isAsked hB hE0 (by omega) (fun hw => ⟨_, rfl, s_M_nextCon_44 ⟨fun h => absurd h (by decide), fun _ => ?_⟩⟩) (fun hw => ⟨_, rfl, s_M_nextCon_44 ⟨fun _ => ⟨(am_kk hB rfl), 134, (am_rf hB rfl), _, Or.inl ⟨by decide, (am_kk hB rfl)⟩, ⟨by omega, by omega⟩, ?_⟩, fun h => absurd rfl h⟩⟩)⟩⟩
      · exact post (c1 : Int) I (Or.inr ⟨c1, rfl, hcc, by omega, hno, Or.inl ⟨hw, rfl⟩⟩)
      · rcases hb with hb | hb
        · refine am_nm_k hb ?_
          rintro _ rfl _ _
          refine ⟨fun h => absurd rfl h, fun _ => ⟨(am_kk hB rfl), 134, (am_rf hB rfl), _, by decide, Or.inl ⟨(am_kk hB rfl), Or.inr rfl⟩, ⟨by omega, by omega⟩, ?_⟩⟩
          exact post (c1 : Int) _ (Or.inr ⟨c1, rfl, hcc, by omega, hno, Or.inr ⟨hw, hb, rfl⟩⟩)
        · refine am_nm_k hb ?_
          rintro _ rfl _ _
          refine ⟨fun _ => am_ar_i (by omega) (by omega) (ih (c1 + 1) (by omega) (by omega) (fun c' a1 a2 => ?_)), fun h => absurd h (by decide)⟩
          by_cases e : c' = c1
          · subst e; exact ⟨hw, by rw [hb]; decide⟩
          · exact hno c' a1 (by omega)
  exact e_M_nextCon (loop (fc' + kc' - c) c (by omega) (Nat.le_refl _) (fun c' a1 a2 => absurd a1 (by omega)))
theorem m_nextNumber {p : Nat} {last : Int} (hB : am_B C R) (hE : sE A g s nr ah K I) (hl : -1 ≤ last) (hl2 : last ≤ 2000) (hu : ∃ n0 : Nat, n0 ≤ 12 ∧ ¬ wnd (ak A) nr (Sg g ah) K p (100 + (n0 : Int))) (post : ∀ y : Int, NNp (ak A) nr (Sg g ah) K p last y → Q (some (.inl y)) (n, C, I, J, R)) : am_WP (d + 2) (am_entry 65 [.inr (.inl 101), .inl (p : Int), .inl last] (n, C, I, J, R)) Q := by
  obtain ⟨n0, u1, u2⟩ := hu
  have loop2 : ∀ (u x : Nat), x + u = n0 → (∀ n' : Int, 0 ≤ n' → n' < (x : Int) → wnd (ak A) nr (Sg g ah) K p (100 + n')) → last < 1000 → (∀ n' : Int, last < n' → n' < 1000 → ¬ wnd (ak A) nr (Sg g ah) K p (100 + n')) → am_WP (d + 2) (65, 42, [.inr (.inl 101), .inl (p : Int), .inl last, .inl (x : Int)], [], (0, 0), n, C, I, J, R) Q := by
    intro u
    induction u with
    | zero =>
      intro x hx hw hl1 hno
      have hx : x = n0 := hx
      subst hx
      refine s_M_nextNumber_42 ⟨fun h => absurd h (by omega), fun _ => am_ar_i (by omega) (by omega) ⟨(am_kk hB rfl), m_isAsked hB hE (by omega) (fun hw => absurd hw u2) (fun _ => ⟨_, rfl, s_M_nextNumber_58 ⟨fun _ => s_M_nextNumber_67 ⟨fun h => absurd h (by omega), fun _ => am_ar_i (by omega) (by omega) (s_M_nextNumber_83 ?_)⟩, fun h => absurd rfl h⟩⟩)⟩⟩
      exact post _ (Or.inr ⟨hl1, Or.inr ⟨hno, (x : Int), by omega, by omega, rfl, u2, hw⟩⟩)
    | succ u ih =>
      intro x hx hw hl1 hno
      refine s_M_nextNumber_42 ⟨fun h => absurd h (by omega), fun _ => am_ar_i (by omega) (by omega) ⟨(am_kk hB rfl), m_isAsked hB hE (by omega) (fun hw' => ⟨_, rfl, s_M_nextNumber_58 ⟨fun h => absurd h (by decide), fun _ => am_ar_i (by omega) (by omega) (ih (x + 1) (by omega) (fun n' a1 a2 => ?_) hl1 hno)⟩⟩) (fun hw' => ⟨_, rfl, s_M_nextNumber_58 ⟨fun _ => s_M_nextNumber_67 ⟨fun h => absurd h (by omega), fun _ => am_ar_i (by omega) (by omega) (s_M_nextNumber_83 ?_)⟩, fun h => absurd rfl h⟩⟩)⟩⟩
      · rcases Int.lt_or_le n' (x : Int) with q | q
        · exact hw n' a1 q
        · have : n' = (x : Int) := by omega
          rw [this]; exact hw'
      · exact post _ (Or.inr ⟨hl1, Or.inr ⟨hno, (x : Int), by omega, by omega, rfl, hw', hw⟩⟩)
  have loop : ∀ (u x : Nat), x + u = 1000 → last < (x : Int) → last < 1000 → (∀ n' : Int, last < n' → n' < (x : Int) → ¬ wnd (ak A) nr (Sg g ah) K p (100 + n')) → am_WP (d + 2) (65, 13, [.inr (.inl 101), .inl (p : Int), .inl last, .inl (x : Int)], [], (0, 0), n, C, I, J, R) Q := by
    intro u
    induction u with
    | zero =>
      intro x hx hlx hl1 hno
      have hx : x = 1000 := hx
      subst hx
      exact s_M_nextNumber_13 ⟨fun _ => loop2 n0 0 (Nat.zero_add _) (fun n' a1 a2 => absurd a2 (by omega)) hl1 hno, fun h => absurd h (by omega)⟩
    | succ u ih =>
      intro x hx hlx hl1 hno
      refine s_M_nextNumber_13 ⟨fun h => absurd h (by omega), fun _ => am_ar_i (by omega) (by omega) ⟨(am_kk hB rfl), m_isAsked hB hE (by omega) (fun hw' => ⟨_, rfl, s_M_nextNumber_29 ⟨fun h => absurd h (by decide), fun _ => ?_⟩⟩) (fun hw' => ⟨_, rfl, s_M_nextNumber_29 ⟨fun _ => am_ar_i (by omega) (by omega) (ih (x + 1) (by omega) (by omega) hl1 (fun n' a1 a2 => ?_)), fun h => absurd rfl h⟩⟩)⟩⟩
      · exact post _ (Or.inr ⟨hl1, Or.inl ⟨hlx, by omega, by omega, hw', hno⟩⟩)
      · rcases Int.lt_or_le n' (x : Int) with q | q
        · exact hno n' a1 q
        · have : n' = (x : Int) := by omega
          rw [this]; exact hw'
  refine e_M_nextNumber ⟨fun h1 => am_ar_i (by omega) (by omega) ?_, fun h1 => post (-1) (Or.inl ⟨h1, rfl⟩)⟩
  obtain ⟨x, hx⟩ : ∃ x : Nat, last + 1 = (x : Int) := ⟨(last + 1).toNat, by omega⟩
  rw [hx]
  exact loop (1000 - x) x (by omega) (by omega) h1 (fun n' a1 a2 => absurd a2 (by omega))
theorem m_firstCon {T fc : Nat} (hB : am_B C R) (hs : I 101 14 = (s : Int)) (s2 : s < 2) (hC : cE F r s N m I) (hT : T < N) (hf : F (r + 3) T = (fc : Int)) (post : Q (some (.inl (fc : Int))) (n, C, I, J, R)) : am_WP d (am_entry 66 [.inr (.inl 101), .inl (F (r + 9) T)] (n, C, I, J, R)) Q := by
  obtain ⟨c1, c2, c3, c4, c5, c6, c7⟩ := hC
  obtain ⟨fc', kc', t1, t2, t3, t4, t5, t6, -⟩ := c7 T hT
  have q1 : fc' = fc := by have := t1.symm.trans hf; omega
  subst q1
  have loop : ∀ (u c : Nat), c + u = fc' → am_WP d (66, 2, [.inr (.inl 101), .inl (F (r + 9) T), .inl (c : Int)], [], (0, 0), n, C, I, J, R) Q := by
    intro u
    induction u with
    | zero =>
      intro c hu
      have hu : c = fc' := hu
      subst hu
      obtain ⟨T', g1, g2, g3⟩ := c4 c (by omega)
      have g4 := (t6 c (by omega)).mpr ⟨by omega, by omega⟩
      have g5 : T' = T := by have := g2.symm.trans g4; omega
      subst g5
      refine s_M_firstCon_2 ⟨(am_kk hB rfl), 111, (am_rf hB rfl), (am_kk hB rfl), am_nm_k hs ?_⟩
      rintro _ rfl _ _
      refine am_ar_i (by omega) (by omega) (am_ar_i (by omega) (by omega) ?_)
      rw [show (36 : Int) * (s : Int) + (c : Int) = ((36 * s + c : Nat) : Int) by omega]
      refine ⟨_, (am_kk hB rfl), ⟨by omega, by omega⟩, am_nm_k g3 ?_⟩
      rintro _ rfl _ _
      exact ⟨fun _ => post, fun h => absurd rfl h⟩
    | succ u ih =>
      intro c hu
      obtain ⟨T', g1, g2, g3⟩ := c4 c (by omega)
      refine s_M_firstCon_2 ⟨(am_kk hB rfl), 111, (am_rf hB rfl), (am_kk hB rfl), am_nm_k hs ?_⟩
      rintro _ rfl _ _
      refine am_ar_i (by omega) (by omega) (am_ar_i (by omega) (by omega) ?_)
      rw [show (36 : Int) * (s : Int) + (c : Int) = ((36 * s + c : Nat) : Int) by omega]
      refine ⟨_, (am_kk hB rfl), ⟨by omega, by omega⟩, am_nm_k g3 ?_⟩
      rintro _ rfl _ _
      refine ⟨fun he => ?_, fun _ => am_ar_i (by omega) (by omega) (ih (c + 1) (by omega))⟩
      have := c6 T' T g1 hT he
      subst this
      have := (t6 c (by omega)).mp g2
      omega
  exact e_M_firstCon (loop fc' 0 (Nat.zero_add _))
theorem m_openAll (hB : am_B C R) (post : ∀ I' : Nat → Nat → Int, (∀ a j : Nat, a ≠ 128 → I' a j = I a j) → (∀ q : Nat, q < 65536 → I' 128 q = -1) → Q none (n, C, I', J, R)) : am_WP d (am_entry 68 [.inr (.inl 101)] (n, C, I, J, R)) Q := by
  have loop : ∀ (u x : Nat) (I1 : Nat → Nat → Int), x + u = 65536 → (∀ a j : Nat, a ≠ 128 → I1 a j = I a j) → (∀ q : Nat, q < x → I1 128 q = -1) → am_WP d (68, 2, [.inr (.inl 101), .inl (x : Int)], [], (0, 0), n, C, I1, J, R) Q := by
    intro u
    induction u with
    | zero =>
      intro x I1 hu h1 h2
      exact s_M_openAll_2 ⟨fun _ => post I1 h1 (fun q hq => h2 q (by omega)), fun h => absurd h (by omega)⟩
    | succ u ih =>
      intro x I1 hu h1 h2
      refine s_M_openAll_2 ⟨fun h => absurd h (by omega), fun _ => ⟨(am_kk hB rfl), 128, (am_rf hB rfl), _, by decide, (am_kk hB rfl), ⟨by omega, by omega⟩, am_ar_i (by omega) (by omega) (ih (x + 1) _ (by omega) (fun a j ha => ?_) (fun q hq => ?_))⟩⟩
      · rw [am_u_ne ha]; exact h1 a j ha
      · show am_u I1 128 x (-1) 128 q = -1
        by_cases e : q = x
        · rw [e]; exact am_u_kk
        · rw [am_u_kn e]; exact h2 q (by omega)
  exact e_M_openAll (loop 65536 0 I (Nat.zero_add _) (fun _ _ _ => rfl) (fun q hq => absurd hq (Nat.not_lt_zero q)))
end MNX
