/-! MEANING: the reference's rows -/
/-- the order of asking: what a pat does, at a place -/
def ls_al {T : Type} (f : Nat → T → List (Nat × Int)) : Nat → List T → List (Nat × Int)
  | _, [] => []
  | p, t :: ts => f p t ++ ls_al f (p + 1) ts
def al (cof : Int → Int) (nwc : Int → Bool) : (n : Nat) → Nat → tm n → List (Nat × Int)
  | 0, _, _ => []
  | n + 1, p, t =>
    if (tm_l t).1 = 2 then (p, -1) :: ls_al (al cof nwc n) p (tm_k t)
    else if (tm_l t).1 = 3 then ls_al (al cof nwc n) p (tm_k t)
    else if (tm_l t).1 = 4 then [(p, 100 + (tm_l t).2.2.2.2.2)]
    else if (tm_l t).1 = 5 ∨ (tm_l t).1 = 6 then (if nwc (cof (tm_l t).2.2.2.2.1) = true then ls_al (al cof nwc n) p (tm_k t) else (p, cof (tm_l t).2.2.2.2.1) :: ls_al (al cof nwc n) (4 * p + 1) (tm_k t))
    else []
def lsa (I : Nat → Nat → Int) (R0 : Nat) : Nat → List (Nat × Int) → Prop
  | _, [] => True
  | k, x :: A => I 120 (150 * R0 + k) = (x.1 : Int) ∧ I 121 (150 * R0 + k) = x.2 ∧ lsa I R0 (k + 1) A
theorem lsa_fr {I I' : Nat → Nat → Int} {R0 : Nat} : ∀ (A : List (Nat × Int)) (k : Nat), lsa I R0 k A → (∀ a j : Nat, (a = 120 ∨ a = 121) → 150 * R0 + k ≤ j → j < 150 * R0 + k + A.length → I' a j = I a j) → lsa I' R0 k A := by
  intro A
  induction A with
  | nil => intro k _ _; exact trivial
  | cons x A ih =>
    intro k h hf
    have hf' : ∀ a j : Nat, (a = 120 ∨ a = 121) → 150 * R0 + k ≤ j → j < 150 * R0 + k + (A.length + 1) → I' a j = I a j := hf
    exact ⟨(hf' _ _ (Or.inl rfl) (by omega) (by omega)).trans h.1, (hf' _ _ (Or.inr rfl) (by omega) (by omega)).trans h.2.1, ih (k + 1) h.2.2 (fun a j h1 h2 h3 => hf' a j h1 (by omega) (by omega))⟩
theorem lsa_app {I : Nat → Nat → Int} {R0 : Nat} {x : Nat × Int} : ∀ (A : List (Nat × Int)) (k : Nat), lsa I R0 k A → I 120 (150 * R0 + (k + A.length)) = (x.1 : Int) → I 121 (150 * R0 + (k + A.length)) = x.2 → lsa I R0 k (A ++ [x]) := by
  intro A
  induction A with
  | nil => intro k _ h1 h2; exact ⟨h1, h2, trivial⟩
  | cons y A ih =>
    intro k h h1 h2
    refine ⟨h.1, h.2.1, ih (k + 1) h.2.2 ?_ ?_⟩
    · rw [show k + 1 + A.length = k + (y :: A).length by show _ = k + (A.length + 1); omega]; exact h1
    · rw [show k + 1 + A.length = k + (y :: A).length by show _ = k + (A.length + 1); omega]; exact h2
section ENV
variable (F : Nat → Nat → Int) (aT W : Nat → Int) (r s N m wd : Nat)
def rE : Prop := s < 2 ∧ N ≤ 6 ∧ m ≤ 36 ∧ wd ≤ 4 ∧ (∀ T : Nat, T < N → lx (F (r + 9)) N (F (r + 9) T) = (T : Int) ∧ 0 ≤ F (r + 9) T ∧ F (r + 9) T ≤ 25 ∧ (F (r + 2) T = 0 ∨ F (r + 2) T = 1)) ∧ (∀ c : Nat, c < m → (∃ T : Nat, T < N ∧ F (r + 5) c = (T : Int) ∧ (F (r + 2) T = 1 → F (r + 6) c = 1)) ∧ 0 ≤ F (r + 6) c ∧ F (r + 6) c ≤ 3 ∧ ∀ z : Nat, (z : Int) < F (r + 6) c → (0 ≤ F (r + 12) (3 * c + z) ∧ F (r + 12) (3 * c + z) ≤ 25) ∧ aT (3 * c + z) = lx (F (r + 9)) N (F (r + 12) (3 * c + z)) ∧ aT (3 * c + z) ≠ -1) ∧ ∀ z : Nat, z < wd → (0 ≤ F (r + 27) z ∧ F (r + 27) z ≤ 25) ∧ W z = lx (F (r + 9)) N (F (r + 27) z) ∧ W z ≠ -1
/-- whether a constructor's type is new -/
def nwc (c : Int) : Bool := decide (F (r + 2) (F (r + 5) c.toNat).toNat = 1)
def wt (l w : Int) : Prop := 0 ≤ l ∧ l ≤ 25 ∧ w = lx (F (r + 9)) N l ∧ w ≠ -1
end ENV
theorem wt_8 {F : Nat → Nat → Int} {aT W : Nat → Int} {r s N m wd : Nat} {l w : Int} (hE : rE F aT W r s N m wd) (h : wt F r N l w) : l = 8 ↔ w = 6 := by
  obtain ⟨-, h2, h3, -⟩ := h
  obtain ⟨-, hN, -⟩ := hE
  unfold lx at h3
  constructor
  · intro e; rw [if_pos e] at h3; exact h3
  · intro e
    rcases Decidable.em (l = 8) with q | q
    · exact q
    · rw [if_neg q] at h3
      rcases fx_cases (F (r + 9)) l N with ⟨h, -⟩ | ⟨c, hc, h, -, -⟩
      · omega
      · omega
theorem wt_con {F : Nat → Nat → Int} {aT W : Nat → Int} {r s N m wd T : Nat} {l w : Int} (hE : rE F aT W r s N m wd) (h : wt F r N l w) (hT : T < N) : F (r + 9) T = l ↔ (T : Int) = w := by
  obtain ⟨-, h2, h3, h4⟩ := h
  have e := (hE.2.2.2.2.1 T hT).1
  have hN := hE.2.1
  constructor
  · intro q; rw [q] at e; omega
  · intro q
    unfold lx at h3
    rcases Decidable.em (l = 8) with p | p
    · rw [if_pos p] at h3; omega
    · rw [if_neg p] at h3
      rcases fx_cases (F (r + 9)) l N with ⟨h, -⟩ | ⟨c, hc, h, hg, -⟩
      · omega
      · have : c = T := by omega
        rw [← this]; exact hg
/-- the kind of a type that is told -/
theorem kx_T {F : Nat → Nat → Int} {aT W : Nat → Int} {r s N m wd T : Nat} (hE : rE F aT W r s N m wd) (hT : T < N) : kx (F (r + 9)) (F (r + 2)) N (F (r + 9) T) = F (r + 2) T + 1 := by
  have e := (hE.2.2.2.2.1 T hT).1
  have hN := hE.2.1
  unfold kx
  unfold lx at e
  rcases Decidable.em (F (r + 9) T = 8) with p | p
  · rw [if_pos p] at e; omega
  · rw [if_neg p] at e
    rw [if_neg p, e, if_neg (by omega), Int.toNat_natCast]
/-- what a row's meaning changes, f frames deep -/
def rf_ch (R0 f a j : Nat) : Prop := (a = 101 ∧ (j = 7 ∨ j = 8 ∨ j = 9 ∨ (33 ≤ j ∧ j ≤ 37))) ∨ ((a = 122 ∨ a = 124) ∧ f ≤ j) ∨ (a = 123 ∧ f ≤ j + 1) ∨ (a = 119 ∧ j = R0) ∨ ((a = 120 ∨ a = 121) ∧ 150 * R0 ≤ j ∧ j < 150 * R0 + 150)
def rf_fr (R0 f : Nat) (I I' : Nat → Nat → Int) : Prop := ∀ a j : Nat, ¬ rf_ch R0 f a j → I' a j = I a j
theorem rf_refl {R0 f : Nat} {I : Nat → Nat → Int} : rf_fr R0 f I I := fun _ _ _ => rfl
theorem rf_trans {R0 f f' : Nat} {I I1 I2 : Nat → Nat → Int} (h : rf_fr R0 f I I1) (h' : rf_fr R0 f' I1 I2) (hf : f ≤ f') : rf_fr R0 f I I2 := fun a j g => (h' a j (fun q => g (by unfold rf_ch at q ⊢; omega))).trans (h a j g)
theorem rf_ut {R0 f a k : Nat} {I I1 : Nat → Nat → Int} {v : Int} (h0 : rf_fr R0 f I I1) (h : rf_ch R0 f a k) : rf_fr R0 f I (am_u I1 a k v) := fun x j g => (am_u_off (by rintro ⟨rfl, rfl⟩; exact g h)).trans (h0 x j g)
theorem rf_101 {R0 f j : Nat} (h : j = 7 ∨ j = 8 ∨ j = 9 ∨ (33 ≤ j ∧ j ≤ 37)) : rf_ch R0 f 101 j := Or.inl ⟨rfl, h⟩
theorem rf_mm {s ρ f : Nat} {I I' J : Nat → Nat → Int} (h : rf_fr (12 * s + ρ) f I I') (hρ : ρ < 12) : mm_fr s I I' J J := by
  refine ⟨fun a j g => h a j (fun q => g ?_), fun _ _ _ => rfl⟩
  rcases q with q | q | q | q | q
  · exact Or.inl q
  · exact Or.inr (Or.inl (by omega))
  · exact Or.inr (Or.inl (by omega))
  · rw [q.1, q.2]; exact mm_tb ⟨by decide, by decide⟩ (by show 12 * s ≤ _; omega) (by show _ < 12 * s + 12; omega)
  · rcases q.1 with e | e <;> rw [e] <;> exact mm_tb ⟨by decide, by decide⟩ (by show 1800 * s ≤ j; omega) (by show j < 1800 * s + 1800; omega)
theorem rf_tab {F G : Nat → Nat → Int} {r s N m wd R0 f : Nat} {I I' J : Nat → Nat → Int} (h : mtab F G r s N m wd I J) (hf : rf_fr R0 f I I') : mtab F G r s N m wd I' J := by
  have e : ∀ a j : Nat, 107 ≤ a → a ≤ 118 → I' a j = I a j := fun a j h1 h2 => hf a j (by unfold rf_ch; omega)
  obtain ⟨h1, h2, h3, h4, h5, h6⟩ := h
  exact ⟨(e _ _ (by decide) (by decide)).trans h1, (e _ _ (by decide) (by decide)).trans h2, (e _ _ (by decide) (by decide)).trans h3, fun z hz => (e _ _ (by decide) (by decide)).trans (h4 z hz), fun l hl => (e _ _ (by decide) (by decide)).trans (h5 l hl), fun c hc => ⟨(e _ _ (by decide) (by decide)).trans (h6 c hc).1, (e _ _ (by decide) (by decide)).trans (h6 c hc).2.1, fun z z3 hz => (e _ _ (by decide) (by decide)).trans ((h6 c hc).2.2.1 z z3 hz), (h6 c hc).2.2.2⟩⟩
/-- where the row stands: how many values are behind, at this list -/
def rS (F : Nat → Nat → Int) (aT W : Nat → Int) (r m wd f cnt col : Nat) (V : Nat → Int) (many base : Nat) (I : Nat → Nat → Int) : Prop := I 101 33 = (f : Int) ∧ (f = 0 ∧ cnt = col ∧ V = W ∧ many = wd ∧ base = 1 ∨ ∃ f' c P : Nat, f = f' + 1 ∧ c < m ∧ I 122 f' = (c : Int) ∧ I 123 f' = (cnt : Int) ∧ I 124 f' = (P : Int) ∧ P < 2 * 4 ^ f ∧ V = (fun i => aT (3 * c + i)) ∧ (many : Int) = F (r + 6) c ∧ base = (if nwc F r (c : Int) = true then P else 4 * P + 1))
section MR
variable {d n : Nat} {K : Nat → am_K} {J : Nat → Nat → Int} {R : Nat → Nat → Option Nat} {Q : am_Q} {kd pl nu nm : Nat → Int} {c s ρ : Nat} {N m wd : Nat} {F G : Nat → Nat → Int} {aT W : Nat → Int} {r : Nat} {I : Nat → Nat → Int}
theorem m_act {A : List (Nat × Int)} {p : Nat} {w : Int} (hB : am_B K R) (hs : s < 2) (hρ : ρ < 12) (h119 : I 119 (12 * s + ρ) = (A.length : Int)) (hA : A.length < 150) (hL : lsa I (12 * s + ρ) 0 A) (post : ∀ I' : Nat → Nat → Int, (∀ a j : Nat, ¬ (a = 119 ∧ j = 12 * s + ρ) → ¬ ((a = 120 ∨ a = 121) ∧ j = 150 * (12 * s + ρ) + A.length) → I' a j = I a j) → I' 119 (12 * s + ρ) = ((A.length + 1 : Nat) : Int) → lsa I' (12 * s + ρ) 0 (A ++ [(p, w)]) → Q none (n, K, I', J, R)) : am_WP d (am_entry 43 [.inr (.inl 101), .inl (s : Int), .inl (ρ : Int), .inl (p : Int), .inl w] (n, K, I, J, R)) Q := by
  have ixr : (0 : Int) ≤ ((12 * s + ρ : Nat) : Int) ∧ ((12 * s + ρ : Nat) : Int) < ((24 : Nat) : Int) := ⟨by omega, by omega⟩
  have ixa : (0 : Int) ≤ ((150 * (12 * s + ρ) + A.length : Nat) : Int) ∧ ((150 * (12 * s + ρ) + A.length : Nat) : Int) < ((3600 : Nat) : Int) := ⟨by omega, by omega⟩
  refine e_M_act (am_ar_i (by omega) (by omega) (am_ar_i (by omega) (by omega) ?_))
  rw [show (12 : Int) * (s : Int) + (ρ : Int) = ((12 * s + ρ : Nat) : Int) by omega]
  refine ⟨(am_kk hB rfl), 120, (am_rf hB rfl), am_ar_i (by omega) (by omega) ⟨(am_kk hB rfl), 119, (am_rf hB rfl), _, (am_kk hB rfl), ixr, am_nm_k h119 ?_⟩⟩
  rintro _ rfl _ _
  refine am_ar_i (by omega) (by omega) ?_
  rw [show (150 : Int) * ((12 * s + ρ : Nat) : Int) + (A.length : Int) = ((150 * (12 * s + ρ) + A.length : Nat) : Int) by omega]
  refine ⟨_, by decide, (am_kk hB rfl), ixa, (am_kk hB rfl), 121, (am_rf hB rfl), am_ar_i (by omega) (by omega) ⟨(am_kk hB rfl), 119, (am_rf hB rfl), _, (am_kk hB rfl), ixr, am_nm_k (show am_u I 120 (150 * (12 * s + ρ) + A.length) (p : Int) 119 (12 * s + ρ) = (A.length : Int) from (am_u_ne (by decide)).trans h119) ?_⟩⟩
  rintro _ rfl _ _
  refine am_ar_i (by omega) (by omega) ?_
  rw [show (150 : Int) * ((12 * s + ρ : Nat) : Int) + (A.length : Int) = ((150 * (12 * s + ρ) + A.length : Nat) : Int) by omega]
  refine ⟨_, by decide, (am_kk hB rfl), ixa, (am_kk hB rfl), 119, (am_rf hB rfl), _, (am_kk hB rfl), ixr, am_nm_k (show am_u (am_u I 120 (150 * (12 * s + ρ) + A.length) (p : Int)) 121 (150 * (12 * s + ρ) + A.length) w 119 (12 * s + ρ) = (A.length : Int) from by rw [am_u_ne (by decide), am_u_ne (by decide), h119]) ?_⟩
  rintro _ rfl _ _
  refine am_ar_i (by omega) (by omega) ⟨_, by decide, (am_kk hB rfl), ixr, post _ (fun a j h1 h2 => ?_) am_u_kk ?_⟩
  · show am_u (am_u (am_u I 120 (150 * (12 * s + ρ) + A.length) (p : Int)) 121 (150 * (12 * s + ρ) + A.length) w) 119 (12 * s + ρ) ((A.length : Int) + 1) a j = I a j
    rw [am_u_off (by omega), am_u_off (by omega), am_u_off (by omega)]
  · refine lsa_app A 0 (lsa_fr A 0 hL (fun a j h1 h2 h3 => ?_)) ?_ ?_
    · show am_u (am_u (am_u I 120 (150 * (12 * s + ρ) + A.length) (p : Int)) 121 (150 * (12 * s + ρ) + A.length) w) 119 (12 * s + ρ) ((A.length : Int) + 1) a j = I a j
      rw [am_u_off (by omega), am_u_off (by omega), am_u_off (by omega)]
    · rw [Nat.zero_add]
      show am_u (am_u (am_u I 120 (150 * (12 * s + ρ) + A.length) (p : Int)) 121 (150 * (12 * s + ρ) + A.length) w) 119 (12 * s + ρ) ((A.length : Int) + 1) 120 _ = _
      rw [am_u_ne (by decide), am_u_ne (by decide), am_u_kk]
    · rw [Nat.zero_add]
      show am_u (am_u (am_u I 120 (150 * (12 * s + ρ) + A.length) (p : Int)) 121 (150 * (12 * s + ρ) + A.length) w) 119 (12 * s + ρ) ((A.length : Int) + 1) 121 _ = _
      rw [am_u_ne (by decide), am_u_kk]
/-- one more value is behind -/
theorem m_behind {f cnt col many base : Nat} {V : Nat → Int} (hB : am_B K R) (hS : rS F aT W r m wd f cnt col V many base I) (hf : f ≤ 7) (hc : cnt ≤ 10) (post : ∀ (I' : Nat → Nat → Int) (z : Int) (col' : Nat), (∀ a j : Nat, ¬ (a = 123 ∧ f = j + 1) → I' a j = I a j) → rS F aT W r m wd f (cnt + 1) col' V many base I' → (col : Int) + z = (col' : Int) → 0 ≤ z → z ≤ 1 → (f ≠ 0 → z = 0) → Q (some (.inl z)) (n, K, I', J, R)) : am_WP d (am_entry 45 [.inr (.inl 101)] (n, K, I, J, R)) Q := by
  obtain ⟨h33, hor⟩ := hS
  refine e_M_comeBehind ⟨(am_kk hB rfl), am_nm_k h33 ?_⟩
  rintro _ rfl _ _
  rcases hor with ⟨f0, h1, h2, h3, h4⟩ | ⟨f', c', P, h1, h2, h3, h4, h5, h6, h7, h8, h9⟩
  · subst f0
    refine ⟨fun h => absurd rfl h, fun _ => post I 1 (col + 1) (fun _ _ _ => rfl) ⟨h33, Or.inl ⟨rfl, by omega, h2, h3, h4⟩⟩ rfl (by decide) (by decide) (fun h => absurd rfl h)⟩
  · refine ⟨fun _ => ⟨(am_kk hB rfl), 123, (am_rf hB rfl), (am_kk hB rfl), am_nm_k h33 ?_⟩, fun h => absurd h (by omega)⟩
    rintro _ rfl _ _
    refine am_ar_i (by omega) (by omega) ?_
    rw [show (f : Int) - 1 = (f' : Int) by omega]
    refine ⟨_, (am_kk hB rfl), ⟨by omega, by omega⟩, am_nm_k h4 ?_⟩
    rintro _ rfl _ _
    refine am_ar_i (by omega) (by omega) ⟨_, by decide, (am_kk hB rfl), ⟨by omega, by omega⟩, post _ 0 col (fun a j h => ?_) ⟨?_, Or.inr ⟨f', c', P, h1, h2, ?_, ?_, ?_, h6, h7, h8, h9⟩⟩ (Int.add_zero _) (by decide) (by decide) (fun _ => rfl)⟩
    · exact am_u_off (by omega)
    · exact (am_u_ne (by decide)).trans h33
    · exact (am_u_ne (by decide)).trans h3
    · exact am_u_kk
    · exact (am_u_ne (by decide)).trans h5
/-- what is wanted next -/
theorem m_want {f cnt col many base : Nat} {V : Nat → Int} (hB : am_B K R) (hE : rE F aT W r s N m wd) (ht : mtab F G r s N m wd I J) (hS : rS F aT W r m wd f cnt col V many base I) (hf : f ≤ 6) (hc : cnt ≤ 10) (yes : cnt < many → ∀ (I' : Nat → Nat → Int) (l : Int), (∀ a j : Nat, ¬ (a = 101 ∧ (j = 34 ∨ j = 35)) → I' a j = I a j) → I' 101 34 = l → wt F r N l (V cnt) → I' 101 35 = ((base + cnt : Nat) : Int) → base + cnt < 2 * 4 ^ (f + 1) → Q (some (.inl 1)) (n, K, I', J, R)) (no : many ≤ cnt → ∀ I' : Nat → Nat → Int, (∀ a j : Nat, ¬ (a = 101 ∧ (j = 34 ∨ j = 35)) → I' a j = I a j) → Q (some (.inl 0)) (n, K, I', J, R)) : am_WP d (am_entry 42 [.inr (.inl 101), .inl (s : Int), .inl (col : Int)] (n, K, I, J, R)) Q := by
  have hE0 := hE
  obtain ⟨hs, hN, hm, hwd, eT, eC, eW⟩ := hE
  obtain ⟨t1, t2, t3, t4, t5, t6⟩ := ht
  have hS0 := hS
  obtain ⟨h33, hor⟩ := hS
  have ixs : (0 : Int) ≤ (s : Int) ∧ (s : Int) < ((2 : Nat) : Int) := ⟨by omega, by omega⟩
  refine e_M_want ⟨(am_kk hB rfl), am_nm_k h33 ?_⟩
  rintro _ rfl _ _
  rcases hor with ⟨f0, h1, h2, h3, h4⟩ | ⟨f', c', P, h1, h2, h3, h4, h5, h6, h7, h8, h9⟩
  · subst f0
    subst h1
    subst h2
    subst h3
    subst h4
    refine ⟨fun h => absurd rfl h, fun _ => ⟨(am_kk hB rfl), 114, (am_rf hB rfl), _, (am_kk hB rfl), ixs, am_nm_k t3 ?_⟩⟩
    rintro _ rfl _ _
    have s32 : ∀ y : Int, am_WP d (42, 32, [.inr (.inl 101), .inl (s : Int), .inl (cnt : Int), am_o, am_o, am_o], [.inl y, .inr (.inl 101)], (0, 0), n, K, I, J, R) Q ↔ am_WP d (42, 32, [.inr (.inl 101), .inl (s : Int), .inl (cnt : Int), am_o, am_o, am_o], [.inl y, .inr (.inl 101)], (0, 0), n, K, I, J, R) Q := fun _ => Iff.rfl
    have fr : ∀ (y z : Int) (a j : Nat), ¬ (a = 101 ∧ (j = 34 ∨ j = 35)) → am_u (am_u I 101 34 y) 101 35 z a j = I a j := fun y z a j h => by rw [am_u_off (by omega), am_u_off (by omega)]
    have e114 : ∀ y z : Int, am_u (am_u I 101 34 y) 101 35 z 114 s = (many : Int) := fun y z => by rw [am_u_ne (by decide), am_u_ne (by decide), t3]
    refine ⟨fun h => s_M_want_32 ⟨⟨by decide, (am_kk hB rfl)⟩, am_ar_i (by omega) (by omega) ⟨⟨by decide, (am_kk hB rfl)⟩, (am_kk hB rfl), 114, (am_rf hB rfl), _, (am_kk hB rfl), ixs, am_nm_k (e114 _ _) ?_⟩⟩, fun h => ⟨(am_kk hB rfl), 115, (am_rf hB rfl), am_ar_i (by omega) (by omega) (am_ar_i (by omega) (by omega) ?_)⟩⟩
    · rintro _ rfl _ _
      exact ⟨fun _ => s_M_want_57 ⟨Or.inl rfl, no (by omega) _ (fr _ _)⟩, fun q => absurd q (by omega)⟩
    · rw [show (4 : Int) * (s : Int) + (cnt : Int) = ((4 * s + cnt : Nat) : Int) by omega]
      obtain ⟨e1, e2, e3⟩ := eW cnt (by omega)
      refine ⟨_, (am_kk hB rfl), ⟨by omega, by omega⟩, am_nm_k (t4 cnt (by omega)) ?_⟩
      rintro _ rfl _ _
      refine s_M_want_32 ⟨⟨by decide, (am_kk hB rfl)⟩, am_ar_i (by omega) (by omega) ⟨⟨by decide, (am_kk hB rfl)⟩, (am_kk hB rfl), 114, (am_rf hB rfl), _, (am_kk hB rfl), ixs, am_nm_k (e114 _ _) ?_⟩⟩
      rintro _ rfl _ _
      refine ⟨fun q => absurd q (by omega), fun _ => s_M_want_57 ⟨Or.inr rfl, yes (by omega) _ (F (r + 27) cnt) (fr _ _) ?_ ⟨e1.1, e1.2, e2, e3⟩ ?_ ?_⟩⟩
      · exact (am_u_kn (by decide)).trans am_u_kk
      · rw [am_u_kk]; omega
      · show 1 + cnt < 2 * 4 ^ 1; omega
  · obtain ⟨⟨T, hT, hcT, hnw⟩, ha0, ha3, hargs⟩ := eC c' h2
    obtain ⟨m1, m2, m3, m4⟩ := t6 c' h2
    have gT := eT T hT
    have eLt : F (r + 5) c' = (T : Int) := hcT
    have ixc : (0 : Int) ≤ ((36 * s + c' : Nat) : Int) ∧ ((36 * s + c' : Nat) : Int) < ((72 : Nat) : Int) := ⟨by omega, by omega⟩
    have ixf : (0 : Int) ≤ (f' : Int) ∧ (f' : Int) < ((8 : Nat) : Int) := ⟨by omega, by omega⟩
    have hP : P < 8192 := Nat.lt_of_lt_of_le h6 (by
      have : 4 ^ f ≤ 4 ^ 6 := Nat.pow_le_pow_right (by decide) hf
      omega)
    have e4 : 4 ^ (f + 1) = 4 * 4 ^ f := by rw [Nat.pow_succ]; omega
    refine ⟨fun _ => ⟨(am_kk hB rfl), am_nm_k h33 ?_⟩, fun h => absurd h (by omega)⟩
    rintro _ rfl _ _
    refine am_ar_i (by omega) (by omega) (am_ar_i (by omega) (by omega) ?_)
    rw [show (f : Int) - 1 = (f' : Int) by omega]
    refine ⟨(am_kk hB rfl), 122, (am_rf hB rfl), _, (am_kk hB rfl), ixf, am_nm_k h3 ?_⟩
    rintro _ rfl _ _
    refine am_ar_i (by omega) (by omega) ?_
    rw [show (36 : Int) * (s : Int) + (c' : Int) = ((36 * s + c' : Nat) : Int) by omega]
    refine ⟨(am_kk hB rfl), 123, (am_rf hB rfl), _, (am_kk hB rfl), ixf, am_nm_k h4 ?_⟩
    rintro _ rfl _ _
    refine ⟨(am_kk hB rfl), 112, (am_rf hB rfl), _, (am_kk hB rfl), ixc, am_nm_k (m2.trans h8.symm) ?_⟩
    rintro _ rfl _ _
    refine ⟨fun h => ⟨(am_kk hB rfl), 113, (am_rf hB rfl), am_ar_i (by omega) (by omega) (am_ar_i (by omega) (by omega) ?_)⟩, fun h => ⟨Or.inl rfl, no (by omega) I (fun _ _ _ => rfl)⟩⟩
    rw [show (3 : Int) * ((36 * s + c' : Nat) : Int) + (cnt : Int) = ((3 * (36 * s + c') + cnt : Nat) : Int) by omega]
    obtain ⟨q1, q2, q3⟩ := hargs cnt (by omega)
    refine ⟨_, (am_kk hB rfl), ⟨by omega, by omega⟩, am_nm_k (m3 cnt (by omega) (by omega)) ?_⟩
    rintro _ rfl _ _
    have m1' : am_u I 101 34 (F (r + 12) (3 * c' + cnt)) 111 (36 * s + c') = F (r + 9) T := by rw [am_u_ne (by decide), m1, eLt, Int.toNat_natCast]
    refine ⟨⟨by decide, (am_kk hB rfl)⟩, (am_kk hB rfl), 107, (am_rf hB rfl), am_ar_i (by omega) (by omega) ⟨(am_kk hB rfl), 111, (am_rf hB rfl), _, (am_kk hB rfl), ixc, am_nm_k m1' ?_⟩⟩
    rintro _ rfl _ _
    obtain ⟨l2, hl2⟩ : ∃ l2 : Nat, F (r + 9) T = (l2 : Int) := ⟨(F (r + 9) T).toNat, by omega⟩
    refine am_ar_i (by omega) (by omega) ?_
    rw [hl2, show (26 : Int) * (s : Int) + (l2 : Int) = ((26 * s + l2 : Nat) : Int) by omega]
    have kk : am_u I 101 34 (F (r + 12) (3 * c' + cnt)) 107 (26 * s + l2) = F (r + 2) T + 1 := by
      rw [am_u_ne (by decide), t5 l2 (by omega), ← hl2]; exact kx_T hE0 hT
    refine ⟨_, (am_kk hB rfl), ⟨by omega, by omega⟩, am_nm_k kk ?_⟩
    rintro _ rfl _ _
    have hnwc : nwc F r (c' : Int) = decide (F (r + 2) T = 1) := by
      unfold nwc; rw [Int.toNat_natCast, eLt, Int.toNat_natCast]
    have wtc : wt F r N (F (r + 12) (3 * c' + cnt)) (V cnt) := by
      rw [h7]; exact ⟨q1.1, q1.2, q2, q3⟩
    have e124 : ∀ y : Int, am_u I 101 34 y 124 f' = (P : Int) := fun y => (am_u_ne (by decide)).trans h5
    refine ⟨fun n2 => ⟨(am_kk hB rfl), 124, (am_rf hB rfl), _, (am_kk hB rfl), ixf, am_nm_k (e124 _) ?_⟩, fun k2 => ⟨(am_kk hB rfl), 124, (am_rf hB rfl), _, (am_kk hB rfl), ixf, am_nm_k (e124 _) ?_⟩⟩
    · rintro _ rfl _ _
      refine am_ar_i (by omega) (by omega) (am_ar_i (by omega) (by omega) (am_ar_i (by omega) (by omega) (s_M_want_160 ⟨⟨by decide, (am_kk hB rfl)⟩, Or.inr rfl, ?_⟩)))
      have hb : base = 4 * P + 1 := by rw [h9, hnwc, if_neg (by simp; omega)]
      refine yes (by omega) _ (F (r + 12) (3 * c' + cnt)) (fun a j h => by rw [am_u_off (by omega), am_u_off (by omega)]) ((am_u_kn (by decide)).trans am_u_kk) wtc ?_ (by omega)
      rw [am_u_kk]; omega
    · rintro _ rfl _ _
      have hb : base = P := by rw [h9, hnwc, if_pos (by simp; omega)]
      have c0 : cnt = 0 := by
        have := hnw (by omega)
        omega
      refine s_M_want_160 ⟨⟨by decide, (am_kk hB rfl)⟩, Or.inr rfl, yes (by omega) _ (F (r + 12) (3 * c' + cnt)) (fun a j h => by rw [am_u_off (by omega), am_u_off (by omega)]) ((am_u_kn (by decide)).trans am_u_kk) wtc ?_ (by omega)⟩
      rw [am_u_kk]; omega
end MR
