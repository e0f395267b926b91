/-! THE REFERENCE'S FORM OF A SET: types -/
/-- what the form of a set changes -/
def fo_fr (I I' : Nat → Nat → Int) : Prop := ∀ a j : Nat, ¬ (a = 101 ∧ (j = 7 ∨ j = 8 ∨ j = 9 ∨ j = 10 ∨ j = 11 ∨ j = 13)) → a ≠ 106 → I' a j = I a j
theorem fo_fm {I I' : Nat → Nat → Int} (h : fm_fr I I') : fo_fr I I' := fun a j g1 g2 => h a j (by omega) g2
theorem fo_trans {I I1 I2 : Nat → Nat → Int} (h : fo_fr I I1) (h' : fo_fr I1 I2) : fo_fr I I2 := fun a j g1 g2 => (h' a j g1 g2).trans (h a j g1 g2)
theorem fo_ut {I I1 : Nat → Nat → Int} {j : Nat} {v : Int} (h : fo_fr I I1) (hj : j = 7 ∨ j = 8 ∨ j = 9 ∨ j = 10 ∨ j = 11 ∨ j = 13) : fo_fr I (am_u I1 101 j v) := fun a k g1 g2 => (am_u_off (by rintro ⟨rfl, rfl⟩; exact g1 ⟨rfl, hj⟩)).trans (h a k g1 g2)
theorem mt_fo {I I' J : Nat → Nat → Int} {kd pl nu nm : Nat → Int} {c : Nat} (hT : mt_T I J kd pl nu nm c) (h : fo_fr I I') : mt_T I' J kd pl nu nm c := by
  refine ⟨fun k hk => ?_, hT.2⟩
  rw [h 104 k (by omega) (by omega), h 103 k (by omega) (by omega)]
  exact hT.1 k hk
def fo_bad (pl : Nat → Int) (I I' : Nat → Nat → Int) (k : Nat) : Prop := fo_fr I I' ∧ I' 101 7 = (k : Int) ∧ I' 101 8 = 1 ∧ I' 101 9 = pl k
theorem fo_of {pl : Nat → Int} {I I' : Nat → Nat → Int} {k : Nat} (h : fm_bad pl I I' k) : fo_bad pl I I' k := ⟨fo_fm h.1, h.2⟩
theorem fo_tr {pl : Nat → Int} {I I1 I' : Nat → Nat → Int} {k : Nat} (f : fm_fr I I1) (h : fm_bad pl I1 I' k) : fo_bad pl I I' k := ⟨fo_fm (fm_trans f h.1), h.2⟩
theorem fo_to {pl : Nat → Int} {I I1 I' : Nat → Nat → Int} {k : Nat} (f : fo_fr I I1) (h : fo_bad pl I1 I' k) : fo_bad pl I I' k := ⟨fo_trans f h.1, h.2⟩
section MD
variable {d n : Nat} {K : Nat → am_K} {I0 I J : Nat → Nat → Int} {R : Nat → Nat → Option Nat} {Q : am_Q} {kd pl nu nm : Nat → Int} {c k : Nat}
theorem fd_218 {x1 x2 : Int} (hB : am_B K R) (hb : fo_bad pl I0 I k) (hQ : ∀ I' : Nat → Nat → Int, fo_bad pl I0 I' k → Q none (n, K, I', J, R)) : am_WP (d + 6) (30, 218, [.inr (.inl 101), .inl x1, .inl x2], [], (0, 0), n, K, I, J, R) Q := by
  refine s_M_formOfSet_218 ⟨(am_kk hB rfl), am_nm_k hb.2.2.1 ?_⟩
  rintro _ rfl _ _
  exact ⟨fun _ => hQ I hb, fun h => absurd h (by decide)⟩
theorem fd_197 {x1 : Int} (hB : am_B K R) (hT : mt_T I0 J kd pl nu nm c) (hk : k ≤ c) (hb : fo_bad pl I0 I k) (hQ : ∀ I' : Nat → Nat → Int, fo_bad pl I0 I' k → Q none (n, K, I', J, R)) : am_WP (d + 6) (30, 197, [.inr (.inl 101), .inl x1, am_o], [], (0, 0), n, K, I, J, R) Q := by
  refine s_M_formOfSet_197 ⟨(am_kk hB rfl), m_takeSign1 (by unfold tb_sg; decide) hB (mt_fo hT hb.1) hb.2.1 hk hb.2.2.1 ⟨rfl, s_M_formOfSet_203 ⟨(am_kk hB rfl), am_nm_k hb.2.1 ?_⟩⟩⟩
  rintro _ rfl _ _
  refine ⟨⟨by decide, (am_kk hB rfl)⟩, ⟨by decide, (am_kk hB rfl)⟩, fd_218 hB ⟨fo_ut (fo_ut hb.1 (by decide)) (by decide), ?_, ?_, ?_⟩ hQ⟩
  · rw [am_u_kn (by decide), am_u_kn (by decide)]; exact hb.2.1
  · rw [am_u_kn (by decide), am_u_kn (by decide)]; exact hb.2.2.1
  · rw [am_u_kn (by decide), am_u_kn (by decide)]; exact hb.2.2.2
theorem fd_171 {x1 : Int} (hB : am_B K R) (hT : mt_T I0 J kd pl nu nm c) (hk : k ≤ c) (hb : fo_bad pl I0 I k) (hQ : ∀ I' : Nat → Nat → Int, fo_bad pl I0 I' k → Q none (n, K, I', J, R)) : am_WP (d + 6) (30, 171, [.inr (.inl 101), .inl x1, am_o], [], (0, 0), n, K, I, J, R) Q := by
  refine s_M_formOfSet_171 ⟨(am_kk hB rfl), am_nm_k hb.2.2.1 ?_⟩
  rintro _ rfl _ _
  exact ⟨fun _ => fd_197 hB hT hk hb hQ, fun h => absurd h (by decide)⟩
theorem fd_166 {x1 : Int} (hB : am_B K R) (hT : mt_T I0 J kd pl nu nm c) (hk : k ≤ c) (hb : fo_bad pl I0 I k) (hQ : ∀ I' : Nat → Nat → Int, fo_bad pl I0 I' k → Q none (n, K, I', J, R)) : am_WP (d + 6) (30, 166, [.inr (.inl 101), .inl x1, am_o], [], (0, 0), n, K, I, J, R) Q :=
  s_M_formOfSet_166 ⟨(am_kk hB rfl), e_M_formOfTypes (m_types1 (w := 4) (m := 0) hB hb.2.2.1 ⟨rfl, fd_171 hB hT hk hb hQ⟩)⟩
theorem fd_155 {x1 : Int} (hB : am_B K R) (hT : mt_T I0 J kd pl nu nm c) (hk : k ≤ c) (hb : fo_bad pl I0 I k) (hQ : ∀ I' : Nat → Nat → Int, fo_bad pl I0 I' k → Q none (n, K, I', J, R)) : am_WP (d + 6) (30, 155, [.inr (.inl 101), .inl x1, am_o], [], (0, 0), n, K, I, J, R) Q := by
  have g : ∀ x : Int, am_WP (d + 6) (30, 163, [.inr (.inl 101), .inl x1, am_o], [.inl x, .inr (.inl 101)], (0, 0), n, K, I, J, R) Q := fun x => s_M_formOfSet_163 ⟨(am_kk hB rfl), m_takeSort1 hB hb.2.2.1 ⟨rfl, fd_166 hB hT hk hb hQ⟩⟩
  exact s_M_formOfSet_155 ⟨(am_kk hB rfl), m_isWord (Or.inr (Or.inr (Or.inl ⟨rfl, rfl⟩))) hB (mt_fo hT hb.1) hb.2.1 hk (fun _ => ⟨_, rfl, g 1⟩) (fun _ => ⟨_, rfl, g 0⟩)⟩
theorem fd_2 {x1 : Int} (hB : am_B K R) (hT : mt_T I0 J kd pl nu nm c) (hk : k ≤ c) (hb : fo_bad pl I0 I k) (hQ : ∀ I' : Nat → Nat → Int, fo_bad pl I0 I' k → Q none (n, K, I', J, R)) : am_WP (d + 6) (30, 2, [.inr (.inl 101), .inl x1, am_o], [], (0, 0), n, K, I, J, R) Q := by
  refine s_M_formOfSet_2 ⟨(am_kk hB rfl), am_nm_k hb.2.2.1 ?_⟩
  rintro _ rfl _ _
  exact ⟨fun _ => fd_155 hB hT hk hb hQ, fun h => absurd h (by decide)⟩
theorem fd_143 {x1 x2 : Int} (hB : am_B K R) (hT : mt_T I0 J kd pl nu nm c) (hk : k ≤ c) (hx : 0 ≤ x1 ∧ x1 ≤ 6) (hb : fo_bad pl I0 I k) (hQ : ∀ I' : Nat → Nat → Int, fo_bad pl I0 I' k → Q none (n, K, I', J, R)) : am_WP (d + 6) (30, 143, [.inr (.inl 101), .inl x1, .inl x2], [], (0, 0), n, K, I, J, R) Q :=
  s_M_formOfSet_143 ⟨(am_kk hB rfl), m_takeSign1 (by unfold tb_sg; decide) hB (mt_fo hT hb.1) hb.2.1 hk hb.2.2.1 ⟨rfl, s_M_formOfSet_149 (am_ar_i (by omega) (by omega) (am_WP.forget (fd_2 (x1 := x1 + 1) hB hT hk hb hQ) _ (am_le_eq (am_le_eq (am_le_o am_le_nil)))))⟩⟩
theorem fd_121 {x1 x2 : Int} (hB : am_B K R) (hT : mt_T I0 J kd pl nu nm c) (hk : k ≤ c) (hx : 0 ≤ x1 ∧ x1 ≤ 6) (hb : fo_bad pl I0 I k) (hQ : ∀ I' : Nat → Nat → Int, fo_bad pl I0 I' k → Q none (n, K, I', J, R)) : am_WP (d + 6) (30, 121, [.inr (.inl 101), .inl x1, .inl x2], [], (0, 0), n, K, I, J, R) Q := by
  have g : ∀ x : Int, am_WP (d + 6) (30, 140, [.inr (.inl 101), .inl x1, .inl x2], [.inl x, .inr (.inl 101)], (0, 0), n, K, I, J, R) Q := fun x => s_M_formOfSet_140 ⟨(am_kk hB rfl), m_takeSort1 hB hb.2.2.1 ⟨rfl, fd_143 hB hT hk hx hb hQ⟩⟩
  exact s_M_formOfSet_121 ⟨(am_kk hB rfl), _, (am_rf hB rfl), (am_kk hB rfl), m_srt hB (mt_fo hT hb.1) hb.2.1 hk (fun z _ _ => ⟨fun _ => g 0, fun _ => g 1⟩)⟩
theorem fd_102 {x1 x2 : Int} (hB : am_B K R) (hT : mt_T I0 J kd pl nu nm c) (hk : k ≤ c) (hx : 0 ≤ x1 ∧ x1 ≤ 6) (hb : fo_bad pl I0 I k) (hQ : ∀ I' : Nat → Nat → Int, fo_bad pl I0 I' k → Q none (n, K, I', J, R)) : am_WP (d + 6) (30, 102, [.inr (.inl 101), .inl x1, .inl x2], [], (0, 0), n, K, I, J, R) Q := by
  have g : ∀ x : Int, am_WP (d + 6) (30, 118, [.inr (.inl 101), .inl x1, .inl x2], [.inl x, .inr (.inl 101)], (0, 0), n, K, I, J, R) Q := fun x => s_M_formOfSet_118 ⟨(am_kk hB rfl), m_takeSort1 hB hb.2.2.1 ⟨rfl, fd_121 hB hT hk hx hb hQ⟩⟩
  exact s_M_formOfSet_102 ⟨fun _ => ⟨(am_kk hB rfl), m_isCon hB (mt_fo hT hb.1) hb.2.1 hk (fun _ => ⟨_, rfl, g 1⟩) (fun _ => ⟨_, rfl, g 0⟩)⟩, fun _ => ⟨(am_kk hB rfl), m_cons1 hB hb.2.2.1 ⟨rfl, s_M_formOfSet_110 (fd_143 hB hT hk hx hb hQ)⟩⟩⟩
theorem fd_96 {x1 x2 : Int} (hB : am_B K R) (hT : mt_T I0 J kd pl nu nm c) (hk : k ≤ c) (hx : 0 ≤ x1 ∧ x1 ≤ 6) (hb : fo_bad pl I0 I k) (hQ : ∀ I' : Nat → Nat → Int, fo_bad pl I0 I' k → Q none (n, K, I', J, R)) : am_WP (d + 6) (30, 96, [.inr (.inl 101), .inl x1, .inl x2], [], (0, 0), n, K, I, J, R) Q :=
  s_M_formOfSet_96 ⟨(am_kk hB rfl), m_takeSign1 (by unfold tb_sg; decide) hB (mt_fo hT hb.1) hb.2.1 hk hb.2.2.1 ⟨rfl, fd_102 hB hT hk hx hb hQ⟩⟩
theorem fd_74 {x1 x2 : Int} (hB : am_B K R) (hT : mt_T I0 J kd pl nu nm c) (hk : k ≤ c) (hx : 0 ≤ x1 ∧ x1 ≤ 6) (hb : fo_bad pl I0 I k) (hQ : ∀ I' : Nat → Nat → Int, fo_bad pl I0 I' k → Q none (n, K, I', J, R)) : am_WP (d + 6) (30, 74, [.inr (.inl 101), .inl x1, .inl x2], [], (0, 0), n, K, I, J, R) Q := by
  have g : ∀ x : Int, am_WP (d + 6) (30, 93, [.inr (.inl 101), .inl x1, .inl x2], [.inl x, .inr (.inl 101)], (0, 0), n, K, I, J, R) Q := fun x => s_M_formOfSet_93 ⟨(am_kk hB rfl), m_takeSort1 hB hb.2.2.1 ⟨rfl, fd_96 hB hT hk hx hb hQ⟩⟩
  exact s_M_formOfSet_74 ⟨(am_kk hB rfl), _, (am_rf hB rfl), (am_kk hB rfl), m_srt hB (mt_fo hT hb.1) hb.2.1 hk (fun z _ _ => ⟨fun _ => g 0, fun _ => g 1⟩)⟩
theorem fd_64 {x1 x2 : Int} (hB : am_B K R) (hT : mt_T I0 J kd pl nu nm c) (hk : k ≤ c) (hx : 0 ≤ x1 ∧ x1 ≤ 6) (hb : fo_bad pl I0 I k) (hQ : ∀ I' : Nat → Nat → Int, fo_bad pl I0 I' k → Q none (n, K, I', J, R)) : am_WP (d + 6) (30, 64, [.inr (.inl 101), .inl x1, .inl x2], [], (0, 0), n, K, I, J, R) Q :=
  s_M_formOfSet_64 ⟨fun _ => fd_74 hB hT hk hx hb hQ, fun _ => ⟨(am_kk hB rfl), m_mis1 hB hb.2.2.1 ⟨rfl, fd_74 hB hT hk hx hb hQ⟩⟩⟩
/-- a type begins: its first word is passed -/
theorem fs_head {nw : Bool} {p : Nat} {x1 : Int} (hB : am_B K R) (hT : mt_T I J kd pl nu nm c) (hi : I 101 7 = (p : Int)) (hc : p ≤ c) (h8 : I 101 8 = 0) (hkd : kd p = (bif nw then 7 else 6)) (post : am_WP (d + 6) (30, 64, [.inr (.inl 101), .inl x1, .inl (xt_v (!nw))], [], (0, 0), n, K, am_u I 101 7 ((p + 1 : Nat) : Int), J, R) Q) : am_WP (d + 6) (30, 2, [.inr (.inl 101), .inl x1, am_o], [], (0, 0), n, K, I, J, R) Q := by
  have w6 : ∀ (Q' : am_Q) (d' : Nat), (kd p = 6 → Q' (some (.inl 1)) (n, K, I, J, R)) → (kd p ≠ 6 → Q' (some (.inl 0)) (n, K, I, J, R)) → am_WP d' (am_entry 26 [.inr (.inl 101), .inr (.inr (some 1684108385))] (n, K, I, J, R)) Q' := fun Q' d' a b => m_isWord (Or.inl ⟨rfl, rfl⟩) hB hT hi hc a b
  have w7 : ∀ (Q' : am_Q) (d' : Nat), (kd p = 7 → Q' (some (.inl 1)) (n, K, I, J, R)) → (kd p ≠ 7 → Q' (some (.inl 0)) (n, K, I, J, R)) → am_WP d' (am_entry 26 [.inr (.inl 101), .inr (.inr (some 7234935))] (n, K, I, J, R)) Q' := fun Q' d' a b => m_isWord (Or.inr (Or.inl ⟨rfl, rfl⟩)) hB hT hi hc a b
  have body : am_WP (d + 6) (30, 33, [.inr (.inl 101), .inl x1, am_o], [], (0, 0), n, K, I, J, R) Q := by
    cases nw with
    | false =>
      have hkd : kd p = 6 := hkd
      exact s_M_formOfSet_33 ⟨(am_kk hB rfl), w6 _ _ (fun _ => ⟨_, rfl, s_M_formOfSet_40 ⟨fun _ => s_M_formOfSet_56 (s_M_formOfSet_61 ⟨(am_kk hB rfl), m_takeSort (P := True) (Or.inl ⟨rfl, trivial⟩) hB hT hi hc h8 (fun _ => ⟨rfl, post⟩) (fun h => absurd trivial h)⟩), fun h => absurd h (by decide)⟩⟩) (fun h => absurd hkd h)⟩
    | true =>
      have hkd : kd p = 7 := hkd
      exact s_M_formOfSet_33 ⟨(am_kk hB rfl), w6 _ _ (fun h => absurd (h.symm.trans hkd) (by decide)) (fun _ => ⟨_, rfl, s_M_formOfSet_40 ⟨fun h => absurd rfl h, fun _ => ⟨(am_kk hB rfl), w7 _ _ (fun _ => ⟨_, rfl, s_M_formOfSet_53 ⟨fun h => absurd h (by decide), fun _ => s_M_formOfSet_56 (s_M_formOfSet_61 ⟨(am_kk hB rfl), m_takeSort (P := True) (Or.inl ⟨rfl, trivial⟩) hB hT hi hc h8 (fun _ => ⟨rfl, post⟩) (fun h => absurd trivial h)⟩)⟩⟩) (fun h => absurd hkd h)⟩⟩⟩)⟩
  refine s_M_formOfSet_2 ⟨(am_kk hB rfl), am_nm_k h8 ?_⟩
  rintro _ rfl _ _
  refine ⟨fun h => absurd rfl h, fun _ => ⟨(am_kk hB rfl), w6 _ _ (fun _ => ⟨_, rfl, s_M_formOfSet_16 ⟨fun _ => body, fun h => absurd h (by decide)⟩⟩) (fun n6 => ⟨_, rfl, s_M_formOfSet_16 ⟨fun h => absurd rfl h, fun _ => ⟨(am_kk hB rfl), w7 _ _ (fun _ => ⟨_, rfl, s_M_formOfSet_26 ⟨fun _ => body, fun h => absurd h (by decide)⟩⟩) (fun n7 => ?_)⟩⟩⟩)⟩⟩
  cases nw with
  | false => exact absurd hkd n6
  | true => exact absurd hkd n7
/-- no type begins -/
theorem fs_none {p : Nat} {x1 : Int} (hB : am_B K R) (hT : mt_T I J kd pl nu nm c) (hi : I 101 7 = (p : Int)) (hc : p ≤ c) (h8 : I 101 8 = 0) (n6 : kd p ≠ 6) (n7 : kd p ≠ 7) (hx : 0 ≤ x1 ∧ x1 ≤ 6) (post : x1 ≠ 0 → am_WP (d + 6) (30, 155, [.inr (.inl 101), .inl x1, am_o], [], (0, 0), n, K, I, J, R) Q) (bad : x1 = 0 → ∀ I' : Nat → Nat → Int, fo_bad pl I I' p → Q none (n, K, I', J, R)) : am_WP (d + 6) (30, 2, [.inr (.inl 101), .inl x1, am_o], [], (0, 0), n, K, I, J, R) Q := by
  have w6 : ∀ (Q' : am_Q) (d' : Nat), Q' (some (.inl 0)) (n, K, I, J, R) → am_WP d' (am_entry 26 [.inr (.inl 101), .inr (.inr (some 1684108385))] (n, K, I, J, R)) Q' := fun Q' d' b => m_isWord (Or.inl ⟨rfl, rfl⟩) hB hT hi hc (fun h => absurd h n6) (fun _ => b)
  have w7 : ∀ (Q' : am_Q) (d' : Nat), Q' (some (.inl 0)) (n, K, I, J, R) → am_WP d' (am_entry 26 [.inr (.inl 101), .inr (.inr (some 7234935))] (n, K, I, J, R)) Q' := fun Q' d' b => m_isWord (Or.inr (Or.inl ⟨rfl, rfl⟩)) hB hT hi hc (fun h => absurd h n7) (fun _ => b)
  refine s_M_formOfSet_2 ⟨(am_kk hB rfl), am_nm_k h8 ?_⟩
  rintro _ rfl _ _
  refine ⟨fun h => absurd rfl h, fun _ => ⟨(am_kk hB rfl), w6 _ _ ⟨_, rfl, s_M_formOfSet_16 ⟨fun h => absurd rfl h, fun _ => ⟨(am_kk hB rfl), w7 _ _ ⟨_, rfl, s_M_formOfSet_26 ⟨fun h => absurd rfl h, fun _ => ⟨fun h => post h, fun h => s_M_formOfSet_33 ⟨(am_kk hB rfl), w6 _ _ ⟨_, rfl, s_M_formOfSet_40 ⟨fun h => absurd rfl h, fun _ => ⟨(am_kk hB rfl), w7 _ _ ⟨_, rfl, s_M_formOfSet_53 ⟨fun _ => s_M_formOfSet_61 ⟨(am_kk hB rfl), m_takeSort (P := False) (Or.inr ⟨rfl, id⟩) hB hT hi hc h8 (fun h => h.elim) (fun _ I' hb => ⟨rfl, fd_64 hB hT hc hx (fo_of hb) (bad h)⟩)⟩, fun h => absurd rfl h⟩⟩⟩⟩⟩⟩⟩⟩⟩⟩⟩⟩⟩⟩
/-- up to the sign = -/
theorem fs_name {p : Nat} {x1 x2 : Int} (hB : am_B K R) (hT : mt_T I J kd pl nu nm c) (hi : I 101 7 = ((p + 1 : Nat) : Int)) (hc : p + 1 ≤ c) (h8 : I 101 8 = 0) (hx : 0 ≤ x1 ∧ x1 < 6) (hk : k ≤ c) (ok : kd (p + 1) = 2 → kd (p + 2) = 61 → ∀ I' : Nat → Nat → Int, fm_fr I I' → I' 101 7 = ((p + 3 : Nat) : Int) → p + 3 ≤ c → I' 101 8 = 0 → am_WP (d + 6) (30, 102, [.inr (.inl 101), .inl x1, .inl x2], [], (0, 0), n, K, I', J, R) Q) (b1 : kd (p + 1) ≠ 2 → k = p + 1) (b2 : kd (p + 1) = 2 → kd (p + 2) ≠ 61 → k = p + 2) (bad : kd (p + 1) ≠ 2 ∨ kd (p + 2) ≠ 61 → ∀ I' : Nat → Nat → Int, fo_bad pl I I' k → Q none (n, K, I', J, R)) : am_WP (d + 6) (30, 64, [.inr (.inl 101), .inl x1, .inl x2], [], (0, 0), n, K, I, J, R) Q := by
  refine s_M_formOfSet_64 ⟨fun _ => s_M_formOfSet_74 ⟨(am_kk hB rfl), _, (am_rf hB rfl), (am_kk hB rfl), m_srt hB hT hi hc (fun z e2 _ => ⟨fun h => ?_, fun h => ?_⟩)⟩, fun h => absurd h (by omega)⟩
  · have n2 : kd (p + 1) ≠ 2 := fun q => h (e2.mpr q)
    have ek := b1 n2
    subst ek
    exact s_M_formOfSet_93 ⟨(am_kk hB rfl), m_takeSort (P := False) (Or.inr ⟨rfl, id⟩) hB hT hi hc h8 (fun h => h.elim) (fun _ I' hb => ⟨rfl, fd_96 hB hT hc ⟨hx.1, by omega⟩ (fo_of hb) (bad (Or.inl n2))⟩)⟩
  · have k2 := e2.mp h
    have hl : p + 1 < c := mt_lt hT hc (by rw [k2]; decide) (by rw [k2]; decide)
    refine s_M_formOfSet_93 ⟨(am_kk hB rfl), m_takeSort (P := True) (Or.inl ⟨rfl, trivial⟩) hB hT hi hc h8 (fun _ => ⟨rfl, ?_⟩) (fun h => absurd trivial h)⟩
    have f1 : fm_fr I (am_u I 101 7 ((p + 1 + 1 : Nat) : Int)) := fm_up (by decide)
    have hT1 := mt_fr hT f1
    have g8 : am_u I 101 7 ((p + 1 + 1 : Nat) : Int) 101 8 = 0 := (am_u_kn (by decide)).trans h8
    refine s_M_formOfSet_96 ⟨(am_kk hB rfl), m_takeSign (by unfold tb_sg; decide) hB hT1 (i := p + 2) am_u_kk hl g8 (fun k61 => ⟨rfl, ?_⟩) (fun n61 I' hb => ⟨rfl, ?_⟩)⟩
    · have hl2 : p + 2 < c := mt_lt hT hl (by rw [k61]; decide) (by rw [k61]; decide)
      exact ok k2 k61 _ (fm_trans f1 (fm_up (by decide))) am_u_kk hl2 ((am_u_kn (by decide)).trans g8)
    · have ek := b2 k2 n61
      subst ek
      exact fd_102 hB hT hl ⟨hx.1, by omega⟩ (fo_tr f1 hb) (bad (Or.inr n61))
/-- the sign ; behind a type -/
theorem fs_close {e : Nat} {x1 x2 : Int} (hB : am_B K R) (hT : mt_T I J kd pl nu nm c) (hi : I 101 7 = (e : Int)) (hc : e ≤ c) (h8 : I 101 8 = 0) (hx : 0 ≤ x1 ∧ x1 < 6) (ok : kd e = 59 → ∀ I' : Nat → Nat → Int, fm_fr I I' → I' 101 7 = ((e + 1 : Nat) : Int) → e + 1 ≤ c → I' 101 8 = 0 → am_WP (d + 6) (30, 2, [.inr (.inl 101), .inl (x1 + 1), am_o], [], (0, 0), n, K, I', J, R) Q) (bad : kd e ≠ 59 → ∀ I' : Nat → Nat → Int, fo_bad pl I I' e → Q none (n, K, I', J, R)) : am_WP (d + 6) (30, 143, [.inr (.inl 101), .inl x1, .inl x2], [], (0, 0), n, K, I, J, R) Q := by
  refine s_M_formOfSet_143 ⟨(am_kk hB rfl), m_takeSign (by unfold tb_sg; decide) hB hT hi hc h8 (fun k59 => ⟨rfl, s_M_formOfSet_149 (am_ar_i (by omega) (by omega) (am_WP.forget (ok k59 _ (fm_up (by decide)) am_u_kk ?_ ((am_u_kn (by decide)).trans h8)) _ (am_le_eq (am_le_eq (am_le_o am_le_nil)))))⟩) (fun n59 I' hb => ⟨rfl, s_M_formOfSet_149 (am_ar_i (by omega) (by omega) (am_WP.forget (fd_2 (x1 := x1 + 1) hB hT hc (fo_of hb) (bad n59)) _ (am_le_eq (am_le_eq (am_le_o am_le_nil)))))⟩)⟩
  exact mt_lt hT hc (by rw [k59]; decide) (by rw [k59]; decide)
theorem fs_type {p : Nat} {x1 : Int} {t : ty} (hB : am_B K R) (hT : mt_T I J kd pl nu nm c) (hi : I 101 7 = (p : Int)) (hc : p ≤ c) (h8 : I 101 8 = 0) (hx : 0 ≤ x1 ∧ x1 < 6) (ht : ty_sp kd p t) (post : ∀ I' : Nat → Nat → Int, fm_fr I I' → I' 101 7 = ((p + ty_sz t : Nat) : Int) → p + ty_sz t ≤ c → I' 101 8 = 0 → am_WP (d + 6) (30, 2, [.inr (.inl 101), .inl (x1 + 1), am_o], [], (0, 0), n, K, I', J, R) Q) : am_WP (d + 6) (30, 2, [.inr (.inl 101), .inl x1, am_o], [], (0, 0), n, K, I, J, R) Q := by
  obtain ⟨nw, as⟩ := t
  obtain ⟨t1, t2, t3, t4, t5, t6⟩ := ht
  have t1 : kd p = (bif nw then 7 else 6) := t1
  have t4 : cs_sp kd (p + 3) as := t4
  have t5 : as.length ≤ 6 := t5
  have t6 : nw = true → as = [1] := t6
  have hl : p < c := mt_lt hT hc (by rw [t1]; cases nw <;> decide) (by rw [t1]; cases nw <;> decide)
  have f1 : fm_fr I (am_u I 101 7 ((p + 1 : Nat) : Int)) := fm_up (by decide)
  have ez : p + ty_sz (nw, as) = p + 3 + cs_sz as := by show p + (3 + cs_sz as) = _; omega
  refine fs_head hB hT hi hc h8 t1 (fs_name (k := p + 1) hB (mt_fr hT f1) am_u_kk hl ((am_u_kn (by decide)).trans h8) hx hl (fun _ _ I2 f2 g1 g2 g3 => ?_) (fun h => absurd t2 h) (fun _ h => absurd t3 h) (fun h => ?_))
  · have f12 := fm_trans f1 f2
    have hT2 := mt_fr hT f12
    cases nw with
    | false =>
      refine s_M_formOfSet_102 ⟨fun h => absurd h (by decide), fun _ => ⟨(am_kk hB rfl), e_M_formOfCons (m_cons_ok hB as 0 (p + 3) I2 hT2 g1 g2 g3 (by omega) t4 (fun I3 e f3 e1 e2 e3 e4 e5 => ⟨rfl, s_M_formOfSet_110 ?_⟩))⟩⟩
      have f13 := fm_trans f12 f3
      refine fs_close hB (mt_fr hT f13) e3 e2 e4 hx (fun _ I4 f4 h1 h2 h3 => post I4 (fm_trans f13 f4) ?_ ?_ h3) (fun h => absurd e5 h)
      · rw [h1, ez]; omega
      · rw [ez]; omega
    | true =>
      have ea : as = [1] := t6 rfl
      subst ea
      obtain ⟨c1, c2, c3, c4⟩ := t4
      have k2 : kd (p + 3 + 1) = 2 := c3 0 (by decide)
      have k59 : kd (p + 3 + 2) = 59 := by
        rcases c4 with h | h
        · exact h.2
        · exact absurd rfl h.1
      have l1 : p + 3 < c := mt_lt hT2 g2 (by rw [c1]; decide) (by rw [c1]; decide)
      have l2 : p + 3 + 1 < c := mt_lt hT2 l1 (by rw [k2]; decide) (by rw [k2]; decide)
      refine s_M_formOfSet_102 ⟨fun _ => ⟨(am_kk hB rfl), m_isCon hB hT2 g1 g2 (fun _ => ⟨_, rfl, s_M_formOfSet_118 ⟨(am_kk hB rfl), m_takeSort (P := True) (Or.inl ⟨rfl, trivial⟩) hB hT2 g1 g2 g3 (fun _ => ⟨rfl, ?_⟩) (fun h => absurd trivial h)⟩⟩) (fun h => absurd c1 h)⟩, fun h => absurd rfl h⟩
      have f3 : fm_fr I (am_u I2 101 7 ((p + 3 + 1 : Nat) : Int)) := fm_trans f12 (fm_up (by decide))
      have hT3 := mt_fr hT f3
      have g8 : am_u I2 101 7 ((p + 3 + 1 : Nat) : Int) 101 8 = 0 := (am_u_kn (by decide)).trans g3
      refine s_M_formOfSet_121 ⟨(am_kk hB rfl), _, (am_rf hB rfl), (am_kk hB rfl), m_srt hB hT3 (i := p + 3 + 1) am_u_kk l1 (fun z e2 _ => ⟨fun h => absurd (e2.mpr k2) h, fun _ => s_M_formOfSet_140 ⟨(am_kk hB rfl), m_takeSort (P := True) (Or.inl ⟨rfl, trivial⟩) hB hT3 (i := p + 3 + 1) am_u_kk l1 g8 (fun _ => ⟨rfl, ?_⟩) (fun h => absurd trivial h)⟩⟩)⟩
      have f4 : fm_fr I (am_u (am_u I2 101 7 ((p + 3 + 1 : Nat) : Int)) 101 7 ((p + 3 + 1 + 1 : Nat) : Int)) := fm_trans f3 (fm_up (by decide))
      refine fs_close (e := p + 3 + 2) hB (mt_fr hT f4) am_u_kk l2 ((am_u_kn (by decide)).trans g8) hx (fun _ I4 f5 h1 h2 h3 => post I4 (fm_trans f4 f5) ?_ ?_ h3) (fun h => absurd k59 h)
      · rw [h1, ez]; rfl
      · rw [ez]; exact h2
  · rcases h with h | h
    · exact absurd t2 h
    · exact absurd t3 h
end MD
