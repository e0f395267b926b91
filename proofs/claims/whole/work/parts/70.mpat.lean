def fm_cl (f : Nat → Int) : Nat → Nat
  | 0 => 0
  | o + 1 => if f o = 1 then fm_cl f o else o + 1
def fm_S (I : Nat → Nat → Int) (i m o : Nat) : Prop := I 101 7 = (i : Int) ∧ I 101 8 = 0 ∧ I 101 10 = (m : Int) ∧ I 101 13 = (o : Int)
section MP
variable {d n : Nat} {K : Nat → am_K} {I J : Nat → Nat → Int} {R : Nat → Nat → Option Nat} {Q : am_Q} {kd pl nu nm : Nat → Int} {c i m : Nat}
theorem mt_lt (hT : mt_T I J kd pl nu nm c) (hc : i ≤ c) (h0 : kd i ≠ 0) (h1 : kd i ≠ 1) : i < c := by
  obtain ⟨-, -, -, h⟩ := hT
  rcases Nat.lt_or_ge i c with g | g
  · exact g
  · have e : i = c := by omega
    subst e
    rcases h with h | h
    · exact absurd h h0
    · exact absurd h h1
theorem m_close (hB : am_B K R) : ∀ (o : Nat) (I : Nat → Nat → Int), o ≤ 60 → I 101 13 = (o : Int) → (∀ I' : Nat → Nat → Int, (∀ a j : Nat, ¬ (a = 101 ∧ j = 13) → I' a j = I a j) → I' 101 13 = ((fm_cl (I 106) o : Nat) : Int) → Q none (n, K, I', J, R)) → am_WP d (am_entry 35 [.inr (.inl 101)] (n, K, I, J, R)) Q := by
  intro o
  induction o with
  | zero =>
    intro I _ ho post
    refine e_M_closeFronts ⟨(am_kk hB rfl), am_nm_k ho ?_⟩
    rintro _ rfl _ _
    exact ⟨fun _ => post I (fun _ _ _ => rfl) ho, fun h => absurd h (by decide)⟩
  | succ o ih =>
    intro I ho60 ho post
    refine e_M_closeFronts ⟨(am_kk hB rfl), am_nm_k ho ?_⟩
    rintro _ rfl _ _
    refine ⟨fun h => absurd h (by omega), fun _ => ⟨(am_kk hB rfl), _, (am_rf hB rfl), (am_kk hB rfl), am_nm_k ho ?_⟩⟩
    rintro _ rfl _ _
    refine fun z4 q4 hz4 _ _ => ?_
    have e4 : z4 = (o : Int) := by omega
    subst e4
    refine ⟨_, (am_kk hB rfl), ⟨by omega, by omega⟩, fun z5 hz5 _ _ => ?_⟩
    have e5 : z5 = I 106 o := hz5
    refine ⟨fun h => post I (fun _ _ _ => rfl) ?_, fun h => ⟨(am_kk hB rfl), am_nm_k ho ?_⟩⟩
    · rw [ho]
      have : fm_cl (I 106) (o + 1) = o + 1 := if_neg (by rw [← e5]; exact h)
      rw [this]
    · rintro _ rfl _ _
      refine fun z8 q8 hz8 _ _ => ⟨⟨by decide, (am_kk hB rfl)⟩, ?_⟩
      have e8 : z8 = (o : Int) := by omega
      subst e8
      refine ih (am_u I 101 13 (o : Int)) (by omega) am_u_kk (fun I' g1 g2 => post I' (fun a j g => ?_) ?_)
      · rw [g1 a j g]
        by_cases ea : a = 101
        · subst ea; exact am_u_kn (fun e => g ⟨rfl, e⟩)
        · exact am_u_ne ea
      · rw [g2, am_u_row (by decide)]
        have : fm_cl (I 106) (o + 1) = fm_cl (I 106) o := if_pos (by rw [← e5]; exact h)
        rw [this]
theorem m_inner {v : Bool} (hB : am_B K R) (hT : mt_T I J kd pl nu nm c) (hi : I 101 7 = (i : Int)) (hc : i ≤ c) (h8 : I 101 8 = 0) (yes : ft_bg v (kd i) → Q none (n, K, I, J, R)) (no : ¬ ft_bg v (kd i) → ∀ I' : Nat → Nat → Int, fm_bad pl I I' i → Q none (n, K, I', J, R)) : am_WP (d + 2) (am_entry 37 [.inr (.inl 101), .inl (xt_v v)] (n, K, I, J, R)) Q := by
  refine e_M_formOfInner ⟨(am_kk hB rfl), m_begins hB hT hi hc (fun h => ⟨_, rfl, s_M_formOfInner_5 ⟨fun _ => s_M_formOfInner_12 (yes h), fun h => absurd h (by decide)⟩⟩) (fun h => ⟨_, rfl, s_M_formOfInner_5 ⟨fun h => absurd rfl h, fun _ => ⟨(am_kk hB rfl), m_misplaced hB hT hi hc h8 (fun I' hb => ⟨rfl, s_M_formOfInner_12 (no h I' hb)⟩)⟩⟩⟩)⟩
theorem fm_bad_tr {I1 I2 : Nat → Nat → Int} {k : Nat} (h : fm_fr I I1) (h' : fm_bad pl I1 I2 k) : fm_bad pl I I2 k := ⟨fm_trans h h'.1, h'.2⟩
theorem m_pat {v : Bool} {o : Nat} (hB : am_B K R) (hT : mt_T I J kd pl nu nm c) (hS : fm_S I i m o) (hc : i ≤ c) (hm60 : m ≤ 60) (ho6 : o ≤ 6)
    (nb : ¬ ft_bg v (kd i) ∨ m = 60 ∨ o = 6 → ∀ I' : Nat → Nat → Int, fm_bad pl I I' i → Q none (n, K, I', J, R))
    (fr : v = false → m < 60 → o < 6 → ∀ e : Nat, (e = 1 ∧ (kd i = 126 ∨ kd i = 33) ∨ e = 2 ∧ kd i = 4 ∧ kd (i + 1) = 64) → (ft_bg v (kd (i + e)) → ∀ I' : Nat → Nat → Int, fm_fr I I' → fm_S I' (i + e) (m + 1) (o + 1) → I' 106 o = 1 → (∀ q : Nat, q < o → I' 106 q = I 106 q) → Q none (n, K, I', J, R)) ∧ (¬ ft_bg v (kd (i + e)) → ∀ I' : Nat → Nat → Int, fm_bad pl I I' (i + e) → Q none (n, K, I', J, R)))
    (pw : m < 60 → o < 6 → kd i = 40 → kd (i + 1) ≠ 3 → ∀ I' : Nat → Nat → Int, fm_bad pl I I' (i + 1) → Q none (n, K, I', J, R))
    (pk : m < 60 → o < 6 → kd i = 40 → kd (i + 1) = 3 → (ft_bg v (kd (i + 2)) → ∀ I' : Nat → Nat → Int, fm_fr I I' → fm_S I' (i + 2) (m + 1) (o + 1) → I' 106 o = 2 → (∀ q : Nat, q < o → I' 106 q = I 106 q) → Q none (n, K, I', J, R)) ∧ (¬ ft_bg v (kd (i + 2)) → ∀ I' : Nat → Nat → Int, fm_bad pl I I' (i + 2) → Q none (n, K, I', J, R)))
    (lf : m < 60 → o < 6 → ft_bg v (kd i) → kd i ≠ 126 → kd i ≠ 33 → ¬ (kd i = 4 ∧ kd (i + 1) = 64) → kd i ≠ 40 → ∀ I' : Nat → Nat → Int, fm_fr I I' → fm_S I' (i + 1) (m + 1) (fm_cl (I 106) o) → (∀ q : Nat, I' 106 q = I 106 q) → Q none (n, K, I', J, R)) :
    am_WP (d + 4) (am_entry 36 [.inr (.inl 101), .inl (xt_v v)] (n, K, I, J, R)) Q := by
  obtain ⟨hi, h8, h10, h13⟩ := hS
  have h12 := hT.2.1
  refine e_M_formOfPat ⟨(am_kk hB rfl), m_begins hB hT hi hc (fun hbg => ⟨_, rfl, ?_⟩) (fun hbg => ⟨_, rfl, s_M_formOfPat_5 ⟨fun _ => ⟨(am_kk hB rfl), m_misplaced hB hT hi hc h8 (fun I' hb => ⟨rfl, s_M_formOfPat_30 (nb (Or.inl hbg) I' hb)⟩)⟩, fun h => absurd rfl h⟩⟩)⟩
  refine s_M_formOfPat_5 ⟨fun h => absurd h (by decide), fun _ => ⟨(am_kk hB rfl), am_nm_k h10 ?_⟩⟩
  rintro _ rfl _ _
  refine ⟨fun h => ⟨(am_kk hB rfl), m_misplaced hB hT hi hc h8 (fun I' hb => ⟨rfl, s_M_formOfPat_30 (nb (Or.inr (Or.inl (by omega))) I' hb)⟩)⟩, fun hne => ⟨(am_kk hB rfl), am_nm_k h13 ?_⟩⟩
  rintro _ rfl _ _
  refine ⟨fun ho => ⟨(am_kk hB rfl), am_nm_k h10 ?_⟩, fun ho => ⟨(am_kk hB rfl), m_misplaced hB hT hi hc h8 (fun I' hb => ⟨rfl, s_M_formOfPat_30 (nb (Or.inr (Or.inr (by omega))) I' hb)⟩)⟩⟩
  rintro _ rfl _ _
  have hm : m < 60 := by omega
  have ho : o < 6 := by omega
  refine am_ar_i (by omega) (by omega) ⟨⟨by decide, (am_kk hB rfl)⟩, (am_kk hB rfl), ?_⟩
  have hlt : i < c := by
    refine mt_lt hT hc ?_ ?_
    · intro e; unfold ft_bg at hbg; omega
    · intro e; unfold ft_bg at hbg; omega
  have f1 : fm_fr I (am_u I 101 10 ((m : Int) + 1)) := fm_up (by decide)
  have hi1 : am_u I 101 10 ((m : Int) + 1) 101 7 = (i : Int) := (am_u_kn (by decide)).trans hi
  have h81 : am_u I 101 10 ((m : Int) + 1) 101 8 = 0 := (am_u_kn (by decide)).trans h8
  have h10' : am_u I 101 10 ((m : Int) + 1) 101 10 = ((m + 1 : Nat) : Int) := am_u_kk
  have h131 : am_u I 101 10 ((m : Int) + 1) 101 13 = (o : Int) := (am_u_kn (by decide)).trans h13
  have r106 : am_u I 101 10 ((m : Int) + 1) 106 = I 106 := am_u_row (by decide)
  generalize am_u I 101 10 ((m : Int) + 1) = I1 at f1 hi1 h81 h10' h131 r106 ⊢
  have hT1 := mt_fr hT f1
  have hs := tr_sort (hT1.1 i hc).2
  -- a front
  have front : v = false → ∀ e : Nat, (e = 1 ∧ (kd i = 126 ∨ kd i = 33) ∨ e = 2 ∧ kd i = 4 ∧ kd (i + 1) = 64) → am_WP (d + 4) (36, 111, [.inr (.inl 101), .inl (xt_v v), am_o], [.inl 1], (0, 0), n, K, I1, J, R) Q := by
    intro hv e he
    have hec : i + e ≤ c := by
      rcases he with he | he
      · omega
      · have := mt_lt (i := i + 1) hT1 (by omega) (by rw [he.2.2]; decide) (by rw [he.2.2]; decide)
        omega
    obtain ⟨q1, q2⟩ := fr hv hm ho e he
    have go : am_WP (d + 4) (36, 139, [.inr (.inl 101), .inl (xt_v v), .inl 1], [.inl (e : Int), .inl (i : Int), .inr (.inl 101)], (0, 0), n, K, I1, J, R) Q := by
      refine s_M_formOfPat_139 (am_ar_i (by omega) (by omega) ⟨⟨by decide, (am_kk hB rfl)⟩, (am_kk hB rfl), _, (am_rf hB rfl), (am_kk hB rfl), am_nm_ie (by decide) (am_nm_k h131 ?_)⟩)
      rintro _ rfl _ _
      refine ⟨_, by decide, (am_kk hB rfl), ⟨by omega, by omega⟩, (am_kk hB rfl), am_nm_ne (by decide) (am_nm_ie (by decide) (am_nm_k h131 ?_))⟩
      rintro _ rfl _ _
      refine am_ar_i (by omega) (by omega) ⟨⟨by decide, (am_kk hB rfl)⟩, (am_kk hB rfl), ?_⟩
      simp only [Int.toNat_natCast]
      have g1 : fm_fr I1 (am_u (am_u (am_u I1 101 7 ((i : Int) + (e : Int))) 106 o 1) 101 13 ((o : Int) + 1)) := fm_trans (fm_trans (fm_up (by decide)) fm_upo) (fm_up (by decide))
      have g7 : am_u (am_u (am_u I1 101 7 ((i : Int) + (e : Int))) 106 o 1) 101 13 ((o : Int) + 1) 101 7 = ((i + e : Nat) : Int) := by
        rw [am_u_kn (by decide), am_u_ne (by decide), am_u_kk]; omega
      have g8 : am_u (am_u (am_u I1 101 7 ((i : Int) + (e : Int))) 106 o 1) 101 13 ((o : Int) + 1) 101 8 = 0 := by
        rw [am_u_kn (by decide), am_u_ne (by decide), am_u_kn (by decide)]; exact h81
      have g10 : am_u (am_u (am_u I1 101 7 ((i : Int) + (e : Int))) 106 o 1) 101 13 ((o : Int) + 1) 101 10 = ((m + 1 : Nat) : Int) := by
        rw [am_u_kn (by decide), am_u_ne (by decide), am_u_kn (by decide)]; exact h10'
      have g13 : am_u (am_u (am_u I1 101 7 ((i : Int) + (e : Int))) 106 o 1) 101 13 ((o : Int) + 1) 101 13 = ((o + 1 : Nat) : Int) := am_u_kk
      have go1 : am_u (am_u (am_u I1 101 7 ((i : Int) + (e : Int))) 106 o 1) 101 13 ((o : Int) + 1) 106 o = 1 := by
        rw [am_u_ne (by decide), am_u_kk]
      have goq : ∀ q : Nat, q < o → am_u (am_u (am_u I1 101 7 ((i : Int) + (e : Int))) 106 o 1) 101 13 ((o : Int) + 1) 106 q = I 106 q := by
        intro q hq
        rw [am_u_ne (by decide), am_u_kn (by omega), am_u_ne (by decide), r106]
      generalize am_u (am_u (am_u I1 101 7 ((i : Int) + (e : Int))) 106 o 1) 101 13 ((o : Int) + 1) = I2 at g1 g7 g8 g10 g13 go1 goq ⊢
      have f2 := fm_trans f1 g1
      exact m_inner hB (mt_fr hT f2) g7 hec g8 (fun hbg2 => ⟨rfl, s_M_formOfPat_168 (s_M_formOfPat_247 (q1 hbg2 I2 f2 ⟨g7, g8, g10, g13⟩ go1 goq))⟩) (fun hbg2 I' hb => ⟨rfl, s_M_formOfPat_168 (s_M_formOfPat_247 (q2 hbg2 I' (fm_bad_tr f2 hb)))⟩)
    refine s_M_formOfPat_111 ⟨fun h => absurd h (by decide), fun _ => ⟨(am_kk hB rfl), am_nm_k hi1 ?_⟩⟩
    rintro _ rfl _ _
    refine ⟨(am_kk hB rfl), _, (am_rf hB rfl), (am_kk hB rfl), am_nm_k hi1 ?_⟩
    rintro _ rfl _ _
    refine ⟨_, (am_kk hB rfl), ⟨by omega, by omega⟩, fun z7 hz7 _ _ => ?_⟩
    have e7 : z7 = I1 103 i := hz7
    rw [← e7] at hs
    refine ⟨fun h => ?_, fun h => ?_⟩
    · rcases he with he | he
      · rw [he.1] at go; exact go
      · exact absurd (hs.2.2.1.mpr he.2.1) h
    · rcases he with he | he
      · have := hs.2.2.1.mp h
        omega
      · rw [he.1] at go; exact go
  -- none
  have none_ : kd i ≠ 126 → kd i ≠ 33 → ¬ (kd i = 4 ∧ kd (i + 1) = 64) → am_WP (d + 4) (36, 110, [.inr (.inl 101), .inl (xt_v v), am_o], [], (0, 0), n, K, I1, J, R) Q := by
    intro n126 n33 n4
    refine s_M_formOfPat_110 (s_M_formOfPat_111 ⟨fun _ => ⟨(am_kk hB rfl), m_isSign (by unfold tb_sg; decide) hB hT1 hi1 hc (fun h40 => ⟨_, rfl, ?_⟩) (fun h40 => ⟨_, rfl, ?_⟩)⟩, fun h => absurd rfl h⟩)
    · refine s_M_formOfPat_177 ⟨fun h => absurd h (by decide), fun _ => ⟨(am_kk hB rfl), am_nm_k hi1 ?_⟩⟩
      rintro _ rfl _ _
      refine am_ar_i (by omega) (by omega) ⟨⟨by decide, (am_kk hB rfl)⟩, (am_kk hB rfl), ?_⟩
      have f2 : fm_fr I1 (am_u I1 101 7 ((i : Int) + 1)) := fm_up (by decide)
      have hT2 := mt_fr hT1 f2
      have hi2 : am_u I1 101 7 ((i : Int) + 1) 101 7 = ((i + 1 : Nat) : Int) := am_u_kk
      have h82 : am_u I1 101 7 ((i : Int) + 1) 101 8 = 0 := (am_u_kn (by decide)).trans h81
      have h102 : am_u I1 101 7 ((i : Int) + 1) 101 10 = ((m + 1 : Nat) : Int) := (am_u_kn (by decide)).trans h10'
      have h132 : am_u I1 101 7 ((i : Int) + 1) 101 13 = (o : Int) := (am_u_kn (by decide)).trans h131
      have r2 : am_u I1 101 7 ((i : Int) + 1) 106 = I 106 := (am_u_row (by decide)).trans r106
      generalize am_u I1 101 7 ((i : Int) + 1) = I2 at f2 hT2 hi2 h82 h102 h132 r2 ⊢
      have ts : ∀ x : Int, (x = 1 ∧ kd (i + 1) = 3 ∨ x = 0 ∧ ¬ kd (i + 1) = 3) → am_WP (d + 4) (36, 195, [.inr (.inl 101), .inl (xt_v v), .inl 0], [.inl x, .inr (.inl 101)], (0, 0), n, K, I2, J, R) Q := by
        intro x hx
        refine s_M_formOfPat_195 ⟨(am_kk hB rfl), m_takeSort (P := kd (i + 1) = 3) hx hB hT2 hi2 (by omega) h82 (fun h3 => ⟨rfl, ?_⟩) (fun h3 I' hb => ⟨rfl, s_M_formOfPat_198 ⟨(am_kk hB rfl), am_nm_k hb.2.2.1 ?_⟩⟩)⟩
        · have hec : i + 2 ≤ c := by
            have := mt_lt (i := i + 1) hT1 (by omega) (by rw [h3]; decide) (by rw [h3]; decide)
            omega
          refine s_M_formOfPat_198 ⟨(am_kk hB rfl), am_nm_ie (by decide) (am_nm_k h82 ?_)⟩
          rintro _ rfl _ _
          refine ⟨fun h => absurd rfl h, fun _ => ⟨(am_kk hB rfl), _, (am_rf hB rfl), (am_kk hB rfl), am_nm_ie (by decide) (am_nm_k h132 ?_)⟩⟩
          rintro _ rfl _ _
          refine ⟨_, by decide, (am_kk hB rfl), ⟨by omega, by omega⟩, (am_kk hB rfl), am_nm_ne (by decide) (am_nm_ie (by decide) (am_nm_k h132 ?_))⟩
          rintro _ rfl _ _
          refine am_ar_i (by omega) (by omega) ⟨⟨by decide, (am_kk hB rfl)⟩, (am_kk hB rfl), ?_⟩
          simp only [Int.toNat_natCast]
          obtain ⟨q1, q2⟩ := pk hm ho h40 h3
          have g1 : fm_fr I2 (am_u (am_u (am_u I2 101 7 ((i + 1 + 1 : Nat) : Int)) 106 o 2) 101 13 ((o : Int) + 1)) := fm_trans (fm_trans (fm_up (by decide)) fm_upo) (fm_up (by decide))
          have g7 : am_u (am_u (am_u I2 101 7 ((i + 1 + 1 : Nat) : Int)) 106 o 2) 101 13 ((o : Int) + 1) 101 7 = ((i + 2 : Nat) : Int) := by
            rw [am_u_kn (by decide), am_u_ne (by decide), am_u_kk]
          have g8 : am_u (am_u (am_u I2 101 7 ((i + 1 + 1 : Nat) : Int)) 106 o 2) 101 13 ((o : Int) + 1) 101 8 = 0 := by
            rw [am_u_kn (by decide), am_u_ne (by decide), am_u_kn (by decide)]; exact h82
          have g10 : am_u (am_u (am_u I2 101 7 ((i + 1 + 1 : Nat) : Int)) 106 o 2) 101 13 ((o : Int) + 1) 101 10 = ((m + 1 : Nat) : Int) := by
            rw [am_u_kn (by decide), am_u_ne (by decide), am_u_kn (by decide)]; exact h102
          have g13 : am_u (am_u (am_u I2 101 7 ((i + 1 + 1 : Nat) : Int)) 106 o 2) 101 13 ((o : Int) + 1) 101 13 = ((o + 1 : Nat) : Int) := am_u_kk
          have go1 : am_u (am_u (am_u I2 101 7 ((i + 1 + 1 : Nat) : Int)) 106 o 2) 101 13 ((o : Int) + 1) 106 o = 2 := by
            rw [am_u_ne (by decide), am_u_kk]
          have goq : ∀ q : Nat, q < o → am_u (am_u (am_u I2 101 7 ((i + 1 + 1 : Nat) : Int)) 106 o 2) 101 13 ((o : Int) + 1) 106 q = I 106 q := by
            intro q hq
            rw [am_u_ne (by decide), am_u_kn (by omega), am_u_ne (by decide), r2]
          generalize am_u (am_u (am_u I2 101 7 ((i + 1 + 1 : Nat) : Int)) 106 o 2) 101 13 ((o : Int) + 1) = I3 at g1 g7 g8 g10 g13 go1 goq ⊢
          have f3 := fm_trans (fm_trans f1 f2) g1
          exact m_inner hB (mt_fr hT f3) g7 hec g8 (fun hbg2 => ⟨rfl, s_M_formOfPat_230 (s_M_formOfPat_247 (q1 hbg2 I3 f3 ⟨g7, g8, g10, g13⟩ go1 goq))⟩) (fun hbg2 I' hb => ⟨rfl, s_M_formOfPat_230 (s_M_formOfPat_247 (q2 hbg2 I' (fm_bad_tr f3 hb)))⟩)
        · rintro _ rfl _ _
          exact ⟨fun _ => s_M_formOfPat_247 (pw hm ho h40 h3 I' (fm_bad_tr (fm_trans f1 f2) hb)), fun h => absurd h (by decide)⟩
      exact m_isCon hB hT2 hi2 (by omega) (fun h3 => ⟨_, rfl, ts 1 (Or.inl ⟨rfl, h3⟩)⟩) (fun h3 => ⟨_, rfl, ts 0 (Or.inr ⟨rfl, h3⟩)⟩)
    · refine s_M_formOfPat_177 ⟨fun _ => ⟨(am_kk hB rfl), am_nm_k hi1 ?_⟩, fun h => absurd rfl h⟩
      rintro _ rfl _ _
      refine am_ar_i (by omega) (by omega) ⟨⟨by decide, (am_kk hB rfl)⟩, (am_kk hB rfl), ?_⟩
      have f2 : fm_fr I1 (am_u I1 101 7 ((i : Int) + 1)) := fm_up (by decide)
      refine m_close hB o _ (by omega) ((am_u_kn (by decide)).trans h131) (fun I' g1 g2 => ⟨rfl, s_M_formOfPat_247 (lf hm ho hbg n126 n33 n4 h40 I' (fm_trans (fm_trans f1 f2) (fun a j p1 p2 => g1 a j (fun q => p1 ⟨q.1, by rw [q.2]; decide⟩))) ⟨?_, ?_, ?_, ?_⟩ (fun q => ?_))⟩)
      · rw [g1 101 7 (by omega), am_u_kk]; omega
      · rw [g1 101 8 (by omega), am_u_kn (by decide)]; exact h81
      · rw [g1 101 10 (by omega), am_u_kn (by decide)]; exact h10'
      · rw [g2, am_u_row (by decide), r106]
      · rw [g1 106 q (by omega), am_u_ne (by decide), r106]
  have vf : kd i = 126 ∨ kd i = 33 ∨ kd i = 4 → v = false := by
    intro h
    unfold ft_bg at hbg
    rcases hbg with q | q | q | q | q
    · omega
    · omega
    · omega
    · omega
    · exact q.1
  refine m_isSign (by unfold tb_sg; decide) hB hT1 hi1 hc (fun h126 => ⟨_, rfl, s_M_formOfPat_47 ⟨fun _ => front (vf (Or.inl h126)) 1 (Or.inl ⟨rfl, Or.inl h126⟩), fun h => absurd h (by decide)⟩⟩) (fun n126 => ⟨_, rfl, s_M_formOfPat_47 ⟨fun h => absurd rfl h, fun _ => ⟨(am_kk hB rfl), m_isSign (by unfold tb_sg; decide) hB hT1 hi1 hc (fun h33 => ⟨_, rfl, s_M_formOfPat_56 ⟨fun _ => front (vf (Or.inr (Or.inl h33))) 1 (Or.inl ⟨rfl, Or.inr h33⟩), fun h => absurd h (by decide)⟩⟩) (fun n33 => ⟨_, rfl, s_M_formOfPat_56 ⟨fun h => absurd rfl h, fun _ => ⟨(am_kk hB rfl), _, (am_rf hB rfl), (am_kk hB rfl), am_nm_k hi1 ?_⟩⟩⟩)⟩⟩⟩)
  rintro _ rfl _ _
  refine ⟨_, (am_kk hB rfl), ⟨by omega, by omega⟩, fun z3 hz3 _ _ => ?_⟩
  have e3 : z3 = I1 103 i := hz3
  rw [← e3] at hs
  refine ⟨fun h => none_ n126 n33 (fun q => h (hs.2.2.1.mpr q.1)), fun h4 => ⟨(am_kk hB rfl), _, (am_rf hB rfl), (am_kk hB rfl), am_nm_k hi1 ?_⟩⟩
  have k4 := hs.2.2.1.mp h4
  rintro _ rfl _ _
  refine am_ar_i (by omega) (by omega) ⟨_, (am_kk hB rfl), ⟨by omega, by omega⟩, fun z8 hz8 _ _ => ?_⟩
  have e8 : z8 = I1 103 (i + 1) := hz8
  have hr := tr_sign (x := 64) (by unfold tb_sg; decide) (hT1.1 (i + 1) (by omega)).2
  rw [← e8] at hr
  refine ⟨fun h => none_ n126 n33 (fun q => h (hr.mpr q.2).1), fun h6 => ⟨(am_kk hB rfl), _, (am_rf hB rfl), (am_kk hB rfl), am_nm_k hi1 ?_⟩⟩
  rintro _ rfl _ _
  refine am_ar_i (by omega) (by omega) ⟨_, by decide, (am_kk hB rfl), ⟨by omega, by omega⟩, fun w hw _ _ => fun u hu _ _ => ?_⟩
  have ew : w = J 105 (i + 1) := hw
  rw [ew] at hu
  refine ⟨fun h => none_ n126 n33 (fun q => h ?_), fun h => front (vf (Or.inr (Or.inr k4))) 2 (Or.inr ⟨rfl, k4, hr.mp ⟨h6, ?_⟩⟩)⟩
  · rw [hu, am_lc0]; exact (hr.mpr q.2).2
  · rw [hu, am_lc0] at h; exact h
end MP
