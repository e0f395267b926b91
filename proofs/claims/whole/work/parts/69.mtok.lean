/-! THE REFERENCE'S TOKENS, by the class's kinds -/
theorem am_lc0 {x y : Int} : am_lc x y = 0 ↔ x = y := by
  unfold am_lc
  split
  · constructor
    · intro h; exact absurd h (by decide)
    · intro h; omega
  · split
    · simp [*]
    · constructor
      · intro h; exact absurd h (by decide)
      · intro h; contradiction
def mt_T (I J : Nat → Nat → Int) (kd pl nu nm : Nat → Int) (c : Nat) : Prop := (∀ k : Nat, k ≤ c → I 104 k = pl k ∧ tk_rel (kd k) (nu k) (nm k) (I 103 k) (J 105 k)) ∧ c ≤ 1200 ∧ (∀ k : Nat, k < c → kd k ≠ 0 ∧ kd k ≠ 1) ∧ (kd c = 0 ∨ kd c = 1)
theorem tr_sort {k num nm s w : Int} (h : tk_rel k num nm s w) : (s = 0 ↔ k = 0) ∧ (s = 2 ↔ k = 2) ∧ (s = 4 ↔ k = 4) ∧ (s = 5 ↔ k = 5) ∧ (s = 3 ↔ k = 3 ∨ k = 6 ∨ k = 7 ∨ k = 8 ∨ k = 9) := by
  rcases h with h | h | h | h | h | h | h | h | h | h | h
  · omega
  · omega
  · omega
  · omega
  · omega
  · omega
  · omega
  · omega
  · omega
  · omega
  · have := h.1
    unfold tb_sg at this
    omega
theorem tr_sign {k num nm s w x : Int} (hx : tb_sg x) (h : tk_rel k num nm s w) : (s = 6 ∧ w = x) ↔ k = x := by
  unfold tb_sg at hx
  rcases h with h | h | h | h | h | h | h | h | h | h | h
  · omega
  · omega
  · omega
  · omega
  · omega
  · omega
  · omega
  · omega
  · omega
  · omega
  · obtain ⟨h1, h2, h3⟩ := h
    clear hx h1
    omega
theorem tr_sg {k num nm s w : Int} (h : tk_rel k num nm s w) : s = 6 ↔ tb_sg k := by
  rcases h with h | h | h | h | h | h | h | h | h | h | h
  all_goals first | (unfold tb_sg; omega) | exact ⟨fun _ => h.1, fun _ => h.2.1⟩
theorem tr_word {k num nm s w : Int} (h : tk_rel k num nm s w) : ((s = 3 ∧ w = 1684108385) ↔ k = 6) ∧ ((s = 3 ∧ w = 7234935) ↔ k = 7) ∧ ((s = 3 ∧ w = 469786452840) ↔ k = 8) ∧ ((s = 3 ∧ w = 2003330414) ↔ k = 9) ∧ ((s = 3 ∧ w ≠ 1684108385 ∧ w ≠ 7234935 ∧ w ≠ 469786452840 ∧ w ≠ 2003330414) ↔ k = 3) := by
  rcases h with h | h | h | h | h | h | h | h | h | h | h
  · omega
  · omega
  · omega
  · omega
  · omega
  · omega
  · omega
  · omega
  · omega
  · omega
  · have := h.1
    unfold tb_sg at this
    omega
section MT
variable {d n : Nat} {K : Nat → am_K} {I J : Nat → Nat → Int} {R : Nat → Nat → Option Nat} {Q : am_Q} {kd pl nu nm : Nat → Int} {c i : Nat}
theorem m_isSign {x : Int} (hx : tb_sg x) (hB : am_B K R) (hT : mt_T I J kd pl nu nm c) (hi : I 101 7 = (i : Int)) (hc : i ≤ c) (yes : kd i = x → Q (some (.inl 1)) (n, K, I, J, R)) (no : kd i ≠ x → Q (some (.inl 0)) (n, K, I, J, R)) : am_WP d (am_entry 25 [.inr (.inl 101), .inl x] (n, K, I, J, R)) Q := by
  have hr := tr_sign hx (hT.1 i hc).2
  have h12 := hT.2.1
  refine e_M_isSign ⟨(am_kk hB rfl), _, (am_rf hB rfl), (am_kk hB rfl), am_nm_k hi ?_⟩
  rintro _ rfl _ _
  refine ⟨_, (am_kk hB rfl), ⟨by omega, by omega⟩, fun z3 hz3 _ _ => ?_⟩
  have e3 : z3 = I 103 i := hz3
  refine ⟨fun h => s_M_isSign_34 ⟨Or.inl rfl, no (fun q => h ?_)⟩, fun h => ⟨(am_kk hB rfl), _, (am_rf hB rfl), (am_kk hB rfl), am_nm_k hi ?_⟩⟩
  · rw [e3]; exact (hr.mpr q).1
  · rintro _ rfl _ _
    refine ⟨_, by decide, (am_kk hB rfl), ⟨by omega, by omega⟩, fun z7 hz7 _ _ => fun z9 hz9 _ _ => ?_⟩
    have e7 : z7 = J 105 i := hz7
    refine ⟨fun g => s_M_isSign_34 ⟨Or.inl rfl, no (fun q => g ?_)⟩, fun g => s_M_isSign_34 ⟨Or.inr rfl, yes (hr.mp ⟨by rw [← e3]; exact h, ?_⟩)⟩⟩
    · rw [hz9, am_lc0, e7]; exact (hr.mpr q).2
    · rw [hz9, am_lc0, e7] at g; exact g
theorem m_isWord {x y : Int} (hxy : x = 1684108385 ∧ y = 6 ∨ x = 7234935 ∧ y = 7 ∨ x = 469786452840 ∧ y = 8 ∨ x = 2003330414 ∧ y = 9) (hB : am_B K R) (hT : mt_T I J kd pl nu nm c) (hi : I 101 7 = (i : Int)) (hc : i ≤ c) (yes : kd i = y → Q (some (.inl 1)) (n, K, I, J, R)) (no : kd i ≠ y → Q (some (.inl 0)) (n, K, I, J, R)) : am_WP d (am_entry 26 [.inr (.inl 101), .inr (.inr (some x))] (n, K, I, J, R)) Q := by
  have hr : (I 103 i = 3 ∧ J 105 i = x) ↔ kd i = y := by
    have := tr_word (hT.1 i hc).2
    rcases hxy with ⟨rfl, rfl⟩ | ⟨rfl, rfl⟩ | ⟨rfl, rfl⟩ | ⟨rfl, rfl⟩
    · exact this.1
    · exact this.2.1
    · exact this.2.2.1
    · exact this.2.2.2.1
  have h12 := hT.2.1
  refine e_M_isWord ⟨(am_kk hB rfl), _, (am_rf hB rfl), (am_kk hB rfl), am_nm_k hi ?_⟩
  rintro _ rfl _ _
  refine ⟨_, (am_kk hB rfl), ⟨by omega, by omega⟩, fun z3 hz3 _ _ => ?_⟩
  have e3 : z3 = I 103 i := hz3
  refine ⟨fun h => s_M_isWord_32 ⟨Or.inl rfl, no (fun q => h ?_)⟩, fun h => ⟨(am_kk hB rfl), _, (am_rf hB rfl), (am_kk hB rfl), am_nm_k hi ?_⟩⟩
  · rw [e3]; exact (hr.mpr q).1
  · rintro _ rfl _ _
    refine ⟨_, by decide, (am_kk hB rfl), ⟨by omega, by omega⟩, fun z7 hz7 _ _ => fun z9 hz9 _ _ => ?_⟩
    have e7 : z7 = J 105 i := hz7
    refine ⟨fun g => s_M_isWord_32 ⟨Or.inl rfl, no (fun q => g ?_)⟩, fun g => s_M_isWord_32 ⟨Or.inr rfl, yes (hr.mp ⟨by rw [← e3]; exact h, ?_⟩)⟩⟩
    · rw [hz9, am_lc0, e7]; exact (hr.mpr q).2
    · rw [hz9, am_lc0, e7] at g; exact g
theorem m_isCon (hB : am_B K R) (hT : mt_T I J kd pl nu nm c) (hi : I 101 7 = (i : Int)) (hc : i ≤ c) (yes : kd i = 3 → Q (some (.inl 1)) (n, K, I, J, R)) (no : kd i ≠ 3 → Q (some (.inl 0)) (n, K, I, J, R)) : am_WP d (am_entry 27 [.inr (.inl 101)] (n, K, I, J, R)) Q := by
  have hr := (tr_word (hT.1 i hc).2).2.2.2.2
  have h12 := hT.2.1
  have y : kd i = 3 → am_WP d (27, 82, [.inr (.inl 101)], [.inl 1], (0, 0), n, K, I, J, R) Q := fun h => s_M_isCon_82 ⟨Or.inr rfl, yes h⟩
  have z : kd i ≠ 3 → am_WP d (27, 82, [.inr (.inl 101)], [.inl 0], (0, 0), n, K, I, J, R) Q := fun h => s_M_isCon_82 ⟨Or.inl rfl, no h⟩
  refine e_M_isCon ⟨(am_kk hB rfl), _, (am_rf hB rfl), (am_kk hB rfl), am_nm_k hi ?_⟩
  rintro _ rfl _ _
  refine ⟨_, (am_kk hB rfl), ⟨by omega, by omega⟩, fun z3 hz3 _ _ => ?_⟩
  have e3 : z3 = I 103 i := hz3
  refine ⟨fun h => z (fun q => h (by rw [e3]; exact (hr.mpr q).1)), fun h => ⟨(am_kk hB rfl), _, (am_rf hB rfl), (am_kk hB rfl), am_nm_k hi ?_⟩⟩
  rw [e3] at h
  rintro _ rfl _ _
  refine ⟨_, by decide, (am_kk hB rfl), ⟨by omega, by omega⟩, fun z7 hz7 _ _ => fun z9 hz9 _ _ => ?_⟩
  have e7 : z7 = J 105 i := hz7
  rw [e7] at hz9
  refine ⟨fun g => z (fun q => ?_), fun g1 => ⟨(am_kk hB rfl), _, (am_rf hB rfl), (am_kk hB rfl), am_nm_k hi ?_⟩⟩
  · rw [hz9, am_lc0] at g; exact (hr.mpr q).2.1 g
  rintro _ rfl _ _
  refine ⟨_, by decide, (am_kk hB rfl), ⟨by omega, by omega⟩, fun z7 hz7 _ _ => fun y9 hy9 _ _ => ?_⟩
  have e7 : z7 = J 105 i := hz7
  rw [e7] at hy9
  refine ⟨fun g => z (fun q => ?_), fun g2 => ⟨(am_kk hB rfl), _, (am_rf hB rfl), (am_kk hB rfl), am_nm_k hi ?_⟩⟩
  · rw [hy9, am_lc0] at g; exact (hr.mpr q).2.2.1 g
  rintro _ rfl _ _
  refine ⟨_, by decide, (am_kk hB rfl), ⟨by omega, by omega⟩, fun z7 hz7 _ _ => fun x9 hx9 _ _ => ?_⟩
  have e7 : z7 = J 105 i := hz7
  rw [e7] at hx9
  refine ⟨fun g => z (fun q => ?_), fun g3 => ⟨(am_kk hB rfl), _, (am_rf hB rfl), (am_kk hB rfl), am_nm_k hi ?_⟩⟩
  · rw [hx9, am_lc0] at g; exact (hr.mpr q).2.2.2.1 g
  rintro _ rfl _ _
  refine ⟨_, by decide, (am_kk hB rfl), ⟨by omega, by omega⟩, fun z7 hz7 _ _ => fun w9 hw9 _ _ => ?_⟩
  have e7 : z7 = J 105 i := hz7
  rw [e7] at hw9
  refine ⟨fun g => z (fun q => ?_), fun g4 => y (hr.mp ⟨h, ?_, ?_, ?_, ?_⟩)⟩
  · rw [hw9, am_lc0] at g; exact (hr.mpr q).2.2.2.2 g
  · intro q; exact g1 (by rw [hz9, am_lc0]; exact q)
  · intro q; exact g2 (by rw [hy9, am_lc0]; exact q)
  · intro q; exact g3 (by rw [hx9, am_lc0]; exact q)
  · intro q; exact g4 (by rw [hw9, am_lc0]; exact q)
theorem m_begins {v : Bool} (hB : am_B K R) (hT : mt_T I J kd pl nu nm c) (hi : I 101 7 = (i : Int)) (hc : i ≤ c) (yes : ft_bg v (kd i) → Q (some (.inl 1)) (n, K, I, J, R)) (no : ¬ ft_bg v (kd i) → Q (some (.inl 0)) (n, K, I, J, R)) : am_WP (d + 1) (am_entry 33 [.inr (.inl 101), .inl (xt_v v)] (n, K, I, J, R)) Q := by
  have hs := tr_sort (hT.1 i hc).2
  have h12 := hT.2.1
  have y : ft_bg v (kd i) → am_WP (d + 1) (33, 90, [.inr (.inl 101), .inl (xt_v v)], [.inl 1], (0, 0), n, K, I, J, R) Q := fun h => s_M_beginsPat_90 ⟨Or.inr rfl, yes h⟩
  have z : ¬ ft_bg v (kd i) → am_WP (d + 1) (33, 90, [.inr (.inl 101), .inl (xt_v v)], [.inl 0], (0, 0), n, K, I, J, R) Q := fun h => s_M_beginsPat_90 ⟨Or.inl rfl, no h⟩
  refine e_M_beginsPat ⟨(am_kk hB rfl), _, (am_rf hB rfl), (am_kk hB rfl), am_nm_k hi ?_⟩
  rintro _ rfl _ _
  refine ⟨_, (am_kk hB rfl), ⟨by omega, by omega⟩, fun z3 hz3 _ _ => ?_⟩
  have e3 : z3 = I 103 i := hz3
  rw [← e3] at hs
  refine ⟨fun h => y (Or.inl (hs.2.2.2.1.mp h)), fun n5 => ⟨(am_kk hB rfl), m_isCon hB hT hi hc (fun h => ⟨_, rfl, s_M_beginsPat_17 ⟨fun _ => y (Or.inr (Or.inl h)), fun h => absurd h (by decide)⟩⟩) (fun n3 => ⟨_, rfl, s_M_beginsPat_17 ⟨fun h => absurd rfl h, fun _ => ⟨(am_kk hB rfl), m_isSign (by unfold tb_sg; decide) hB hT hi hc (fun h => ⟨_, rfl, s_M_beginsPat_26 ⟨fun _ => y (Or.inr (Or.inr (Or.inl h))), fun h => absurd h (by decide)⟩⟩) (fun n40 => ⟨_, rfl, s_M_beginsPat_26 ⟨fun h => absurd rfl h, fun _ => ?_⟩⟩)⟩⟩⟩)⟩⟩
  have n5' : kd i ≠ 5 := fun q => n5 (hs.2.2.2.1.mpr q)
  refine ⟨fun v0 => ⟨(am_kk hB rfl), _, (am_rf hB rfl), (am_kk hB rfl), am_nm_k hi ?_⟩, fun v1 => ⟨(am_kk hB rfl), ?_⟩⟩
  · have hv : v = false := by cases v <;> first | rfl | exact absurd v0 (by decide)
    rintro _ rfl _ _
    refine ⟨_, (am_kk hB rfl), ⟨by omega, by omega⟩, fun y3 hy3 _ _ => ?_⟩
    have f3 : y3 = I 103 i := hy3
    have e4 : y3 = 4 ↔ kd i = 4 := by rw [f3, ← e3]; exact hs.2.2.1
    refine ⟨fun h => y (Or.inr (Or.inr (Or.inr (Or.inr ⟨hv, Or.inr (Or.inr (Or.inl (e4.mp h)))⟩)))), fun n4 => ⟨(am_kk hB rfl), m_isSign (by unfold tb_sg; decide) hB hT hi hc (fun h => ⟨_, rfl, s_M_beginsPat_64 ⟨fun _ => y (Or.inr (Or.inr (Or.inr (Or.inr ⟨hv, Or.inr (Or.inr (Or.inr h))⟩)))), fun h => absurd h (by decide)⟩⟩) (fun n95 => ⟨_, rfl, s_M_beginsPat_64 ⟨fun h => absurd rfl h, fun _ => ⟨(am_kk hB rfl), m_isSign (by unfold tb_sg; decide) hB hT hi hc (fun h => ⟨_, rfl, s_M_beginsPat_73 ⟨fun _ => y (Or.inr (Or.inr (Or.inr (Or.inr ⟨hv, Or.inl h⟩)))), fun h => absurd h (by decide)⟩⟩) (fun n126 => ⟨_, rfl, s_M_beginsPat_73 ⟨fun h => absurd rfl h, fun _ => ⟨(am_kk hB rfl), m_isSign (by unfold tb_sg; decide) hB hT hi hc (fun h => ⟨_, rfl, s_M_beginsPat_82 ⟨fun h => absurd h (by decide), fun _ => y (Or.inr (Or.inr (Or.inr (Or.inr ⟨hv, Or.inr (Or.inl h)⟩))))⟩⟩) (fun n33 => ⟨_, rfl, s_M_beginsPat_82 ⟨fun _ => z ?_, fun h => absurd rfl h⟩⟩)⟩⟩⟩)⟩⟩⟩)⟩⟩
    have n4' : kd i ≠ 4 := fun q => n4 (e4.mpr q)
    unfold ft_bg
    rw [hv]
    rintro (q | q | q | ⟨q, -⟩ | ⟨-, q⟩)
    · exact n5' q
    · exact n3 q
    · exact n40 q
    · exact absurd q (by decide)
    · omega
  · have hv : v = true := by cases v <;> first | rfl | exact absurd rfl v1
    refine m_isSign (by unfold tb_sg; decide) hB hT hi hc (fun h => ⟨_, rfl, s_M_beginsPat_39 ⟨fun h => absurd h (by decide), fun _ => y (Or.inr (Or.inr (Or.inr (Or.inl ⟨hv, h⟩))))⟩⟩) (fun n63 => ⟨_, rfl, s_M_beginsPat_39 ⟨fun _ => z ?_, fun h => absurd rfl h⟩⟩)
    unfold ft_bg
    rw [hv]
    rintro (q | q | q | ⟨-, q⟩ | ⟨q, -⟩)
    · exact n5' q
    · exact n3 q
    · exact n40 q
    · exact n63 q
    · exact absurd q (by decide)
/-- what reading a form changes -/
def fm_fr (I I' : Nat → Nat → Int) : Prop := ∀ a j : Nat, ¬ (a = 101 ∧ (j = 7 ∨ j = 8 ∨ j = 9 ∨ j = 10 ∨ j = 13)) → a ≠ 106 → I' a j = I a j
theorem fm_refl : fm_fr I I := fun _ _ _ _ => rfl
theorem fm_trans {I1 I2 : Nat → Nat → Int} (h : fm_fr I I1) (h' : fm_fr I1 I2) : fm_fr I I2 := fun a j g1 g2 => (h' a j g1 g2).trans (h a j g1 g2)
theorem fm_up {j : Nat} {v : Int} (hj : j = 7 ∨ j = 8 ∨ j = 9 ∨ j = 10 ∨ j = 13) : fm_fr I (am_u I 101 j v) := by
  intro a k g1 g2
  by_cases e : a = 101
  · subst e
    exact am_u_kn (fun e2 => g1 ⟨rfl, by rw [e2]; exact hj⟩)
  · exact am_u_ne e
theorem fm_upo {j : Nat} {v : Int} : fm_fr I (am_u I 106 j v) := fun a k _ g2 => am_u_ne g2
theorem mt_fr {I' : Nat → Nat → Int} (hT : mt_T I J kd pl nu nm c) (h : fm_fr I I') : mt_T I' J kd pl nu nm c := by
  refine ⟨fun k hk => ?_, hT.2⟩
  rw [h 104 k (by omega) (by omega), h 103 k (by omega) (by omega)]
  exact hT.1 k hk
/-- a FAULT at token k -/
def fm_bad (pl : Nat → Int) (I I' : Nat → Nat → Int) (k : Nat) : Prop := fm_fr I I' ∧ I' 101 7 = (k : Int) ∧ I' 101 8 = 1 ∧ I' 101 9 = pl k
theorem m_misplaced (hB : am_B K R) (hT : mt_T I J kd pl nu nm c) (hi : I 101 7 = (i : Int)) (hc : i ≤ c) (h8 : I 101 8 = 0) (post : ∀ I' : Nat → Nat → Int, fm_bad pl I I' i → Q none (n, K, I', J, R)) : am_WP d (am_entry 24 [.inr (.inl 101)] (n, K, I, J, R)) Q := by
  have h12 := hT.2.1
  refine e_M_misplaced ⟨(am_kk hB rfl), am_nm_k h8 ?_⟩
  rintro _ rfl _ _
  refine ⟨fun h => absurd rfl h, fun _ => ⟨⟨by decide, (am_kk hB rfl)⟩, Or.inr rfl, (am_kk hB rfl), _, (am_rf hB rfl), (am_kk hB rfl), am_nm_ie (by decide) (am_nm_k hi ?_)⟩⟩
  rintro _ rfl _ _
  refine ⟨_, (am_kk hB rfl), ⟨by omega, by omega⟩, am_nm_ne (by decide) (am_nm_k (hT.1 i hc).1 ?_)⟩
  rintro _ rfl _ _
  refine ⟨⟨by decide, (am_kk hB rfl)⟩, post _ ⟨fm_trans (fm_up (by decide)) (fm_up (by decide)), ?_, ?_, am_u_kk⟩⟩
  · rw [am_u_kn (by decide), am_u_kn (by decide)]; exact hi
  · rw [am_u_kn (by decide)]; exact am_u_kk
theorem m_mis1 (hB : am_B K R) (h8 : I 101 8 = 1) (post : Q none (n, K, I, J, R)) : am_WP d (am_entry 24 [.inr (.inl 101)] (n, K, I, J, R)) Q := by
  refine e_M_misplaced ⟨(am_kk hB rfl), am_nm_k h8 ?_⟩
  rintro _ rfl _ _
  exact ⟨fun _ => post, fun h => absurd h (by decide)⟩
theorem m_takeSort {x : Int} {P : Prop} (hx : x = 1 ∧ P ∨ x = 0 ∧ ¬ P) (hB : am_B K R) (hT : mt_T I J kd pl nu nm c) (hi : I 101 7 = (i : Int)) (hc : i ≤ c) (h8 : I 101 8 = 0) (yes : P → Q none (n, K, am_u I 101 7 ((i + 1 : Nat) : Int), J, R)) (no : ¬ P → ∀ I' : Nat → Nat → Int, fm_bad pl I I' i → Q none (n, K, I', J, R)) : am_WP (d + 1) (am_entry 29 [.inr (.inl 101), .inl x] (n, K, I, J, R)) Q := by
  have h12 := hT.2.1
  refine e_M_takeSort ⟨fun h => s_M_takeSort_8 ⟨(am_kk hB rfl), am_nm_k h8 ?_⟩, fun h => ⟨(am_kk hB rfl), m_misplaced hB hT hi hc h8 (fun I' hb => ⟨rfl, s_M_takeSort_8 ⟨(am_kk hB rfl), am_nm_k hb.2.2.1 ?_⟩⟩)⟩⟩
  · rintro _ rfl _ _
    refine ⟨fun h => absurd rfl h, fun _ => ⟨(am_kk hB rfl), am_nm_k hi ?_⟩⟩
    rintro _ rfl _ _
    refine am_ar_i (by omega) (by omega) ⟨⟨by decide, (am_kk hB rfl)⟩, ?_⟩
    rcases hx with hx | hx
    · exact yes hx.2
    · exact absurd hx.1 h
  · rintro _ rfl _ _
    refine ⟨fun _ => no ?_ I' hb, fun h => absurd h (by decide)⟩
    rcases hx with hx | hx
    · omega
    · exact hx.2
theorem m_takeSort1 {x : Int} (hB : am_B K R) (h8 : I 101 8 = 1) (post : Q none (n, K, I, J, R)) : am_WP (d + 1) (am_entry 29 [.inr (.inl 101), .inl x] (n, K, I, J, R)) Q := by
  have e : am_WP (d + 1) (29, 8, [.inr (.inl 101), .inl x], [], (0, 0), n, K, I, J, R) Q := by
    refine s_M_takeSort_8 ⟨(am_kk hB rfl), am_nm_k h8 ?_⟩
    rintro _ rfl _ _
    exact ⟨fun _ => post, fun h => absurd h (by decide)⟩
  exact e_M_takeSort ⟨fun _ => e, fun _ => ⟨(am_kk hB rfl), m_mis1 hB h8 ⟨rfl, e⟩⟩⟩
theorem m_takeSign {x : Int} (hx : tb_sg x) (hB : am_B K R) (hT : mt_T I J kd pl nu nm c) (hi : I 101 7 = (i : Int)) (hc : i ≤ c) (h8 : I 101 8 = 0) (yes : kd i = x → Q none (n, K, am_u I 101 7 ((i + 1 : Nat) : Int), J, R)) (no : kd i ≠ x → ∀ I' : Nat → Nat → Int, fm_bad pl I I' i → Q none (n, K, I', J, R)) : am_WP (d + 1) (am_entry 28 [.inr (.inl 101), .inl x] (n, K, I, J, R)) Q := by
  have h12 := hT.2.1
  refine e_M_takeSign ⟨(am_kk hB rfl), m_isSign hx hB hT hi hc (fun h => ⟨_, rfl, s_M_takeSign_5 ⟨fun _ => s_M_takeSign_12 ⟨(am_kk hB rfl), am_nm_k h8 ?_⟩, fun h => absurd h (by decide)⟩⟩) (fun h => ⟨_, rfl, s_M_takeSign_5 ⟨fun h => absurd rfl h, fun _ => ⟨(am_kk hB rfl), m_misplaced hB hT hi hc h8 (fun I' hb => ⟨rfl, s_M_takeSign_12 ⟨(am_kk hB rfl), am_nm_k hb.2.2.1 ?_⟩⟩)⟩⟩⟩)⟩
  · rintro _ rfl _ _
    refine ⟨fun h => absurd rfl h, fun _ => ⟨(am_kk hB rfl), am_nm_k hi ?_⟩⟩
    rintro _ rfl _ _
    exact am_ar_i (by omega) (by omega) ⟨⟨by decide, (am_kk hB rfl)⟩, yes h⟩
  · rintro _ rfl _ _
    exact ⟨fun _ => no h I' hb, fun h => absurd h (by decide)⟩
theorem m_takeSign1 {x : Int} (hx : tb_sg x) (hB : am_B K R) (hT : mt_T I J kd pl nu nm c) (hi : I 101 7 = (i : Int)) (hc : i ≤ c) (h8 : I 101 8 = 1) (post : Q none (n, K, I, J, R)) : am_WP (d + 1) (am_entry 28 [.inr (.inl 101), .inl x] (n, K, I, J, R)) Q := by
  have e : am_WP (d + 1) (28, 12, [.inr (.inl 101), .inl x], [], (0, 0), n, K, I, J, R) Q := by
    refine s_M_takeSign_12 ⟨(am_kk hB rfl), am_nm_k h8 ?_⟩
    rintro _ rfl _ _
    exact ⟨fun _ => post, fun h => absurd h (by decide)⟩
  exact e_M_takeSign ⟨(am_kk hB rfl), m_isSign hx hB hT hi hc (fun _ => ⟨_, rfl, s_M_takeSign_5 ⟨fun _ => e, fun h => absurd h (by decide)⟩⟩) (fun _ => ⟨_, rfl, s_M_takeSign_5 ⟨fun h => absurd rfl h, fun _ => ⟨(am_kk hB rfl), m_mis1 hB h8 ⟨rfl, e⟩⟩⟩⟩)⟩
end MT
