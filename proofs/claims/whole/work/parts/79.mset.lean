/-! THE REFERENCE'S FORM OF A SET -/
section MS
variable {d n : Nat} {K : Nat → am_K} {I J : Nat → Nat → Int} {R : Nat → Nat → Option Nat} {Q : am_Q} {kd pl nu nm : Nat → Int} {c i : Nat}
theorem m_srt {P : Int → Prop} (hB : am_B K R) (hT : mt_T I J kd pl nu nm c) (hi : I 101 7 = (i : Int)) (hc : i ≤ c) (h : ∀ z : Int, (z = 2 ↔ kd i = 2) → (z = 0 ↔ kd i = 0) → P z) : am_nm (I 101 7) fun z2 => ∃ n4 : Nat, K 103 = .inr (0, n4) ∧ (0 ≤ z2 ∧ z2 < (n4 : Int)) ∧ am_nm (I 103 z2.toNat) P := by
  have h12 := hT.2.1
  have hs := tr_sort (hT.1 i hc).2
  refine am_nm_k hi ?_
  rintro _ rfl _ _
  refine ⟨_, (am_kk hB rfl), ⟨by omega, by omega⟩, fun z hz _ _ => ?_⟩
  have e : z = I 103 i := hz
  exact h z (by rw [e]; exact hs.2.1) (by rw [e]; exact hs.1)
theorem m_types_ok {w : Nat} (hB : am_B K R) : ∀ (a m i : Nat) (I : Nat → Nat → Int), mt_T I J kd pl nu nm c → I 101 7 = (i : Int) → i ≤ c → I 101 8 = 0 → m + a ≤ w → w ≤ 4 → (∀ z : Nat, z < a → kd (i + z) = 2) → kd (i + a) ≠ 2 → (∀ I' : Nat → Nat → Int, fm_fr I I' → I' 101 7 = ((i + a : Nat) : Int) → i + a ≤ c → I' 101 8 = 0 → Q none (n, K, I', J, R)) → am_WP (d + 1) (31, 2, [.inr (.inl 101), .inl (w : Int), .inl (m : Int)], [], (0, 0), n, K, I, J, R) Q := by
  intro a
  induction a with
  | zero =>
    intro m i I hT hi hc h8 hm hw _ h2 post
    refine s_M_formOfTypes_2 ⟨(am_kk hB rfl), am_nm_k h8 ?_⟩
    rintro _ rfl _ _
    exact ⟨fun h => absurd rfl h, fun _ => ⟨(am_kk hB rfl), _, (am_rf hB rfl), (am_kk hB rfl), m_srt hB hT hi hc (fun z e2 _ => ⟨fun _ => post I fm_refl hi hc h8, fun h => absurd (e2.mp h) h2⟩)⟩⟩
  | succ a ih =>
    intro m i I hT hi hc h8 hm hw ha h2 post
    have k2 : kd i = 2 := ha 0 (by omega)
    have hl : i < c := mt_lt hT hc (by rw [k2]; decide) (by rw [k2]; decide)
    have h12 := hT.2.1
    refine s_M_formOfTypes_2 ⟨(am_kk hB rfl), am_nm_k h8 ?_⟩
    rintro _ rfl _ _
    refine ⟨fun h => absurd rfl h, fun _ => ⟨(am_kk hB rfl), _, (am_rf hB rfl), (am_kk hB rfl), m_srt hB hT hi hc (fun z e2 _ => ⟨fun h => absurd (e2.mpr k2) h, fun _ => ⟨fun _ => ⟨(am_kk hB rfl), am_nm_k hi ?_⟩, fun h => absurd h (by omega)⟩⟩)⟩⟩
    rintro _ rfl _ _
    refine am_ar_i (by omega) (by omega) ⟨⟨by decide, (am_kk hB rfl)⟩, am_ar_i (by omega) (by omega) ?_⟩
    have f1 : fm_fr I (am_u I 101 7 ((i : Int) + 1)) := fm_up (by decide)
    refine ih (m + 1) (i + 1) (am_u I 101 7 ((i : Int) + 1)) (mt_fr hT f1) am_u_kk hl ((am_u_kn (by decide)).trans h8) (by omega) hw (fun z hz => by rw [show i + 1 + z = i + (z + 1) by omega]; exact ha (z + 1) (by omega)) (by rw [show i + 1 + a = i + (a + 1) by omega]; exact h2) (fun I' f2 g1 g2 g3 => post I' (fm_trans f1 f2) (by rw [g1]; omega) (by omega) g3)
theorem m_types_bad {w : Nat} (hB : am_B K R) : ∀ (a m i : Nat) (I : Nat → Nat → Int), mt_T I J kd pl nu nm c → I 101 7 = (i : Int) → i ≤ c → I 101 8 = 0 → m + a = w → w ≤ 4 → (∀ z : Nat, z ≤ a → kd (i + z) = 2) → (∀ I' : Nat → Nat → Int, fm_bad pl I I' (i + a) → i + a ≤ c → Q none (n, K, I', J, R)) → am_WP (d + 1) (31, 2, [.inr (.inl 101), .inl (w : Int), .inl (m : Int)], [], (0, 0), n, K, I, J, R) Q := by
  intro a
  induction a with
  | zero =>
    intro m i I hT hi hc h8 hm hw ha post
    have k2 : kd i = 2 := ha 0 (by omega)
    refine s_M_formOfTypes_2 ⟨(am_kk hB rfl), am_nm_k h8 ?_⟩
    rintro _ rfl _ _
    refine ⟨fun h => absurd rfl h, fun _ => ⟨(am_kk hB rfl), _, (am_rf hB rfl), (am_kk hB rfl), m_srt hB hT hi hc (fun z e2 _ => ⟨fun h => absurd (e2.mpr k2) h, fun _ => ⟨fun h => absurd (by omega) h, fun _ => ⟨(am_kk hB rfl), m_misplaced hB hT hi hc h8 (fun I' hb => ⟨rfl, s_M_formOfTypes_31 (s_M_formOfTypes_2 ⟨(am_kk hB rfl), am_nm_k hb.2.2.1 ?_⟩)⟩)⟩⟩⟩)⟩⟩
    rintro _ rfl _ _
    exact ⟨fun _ => post I' hb hc, fun h => absurd h (by decide)⟩
  | succ a ih =>
    intro m i I hT hi hc h8 hm hw ha post
    have k2 : kd i = 2 := ha 0 (by omega)
    have hl : i < c := mt_lt hT hc (by rw [k2]; decide) (by rw [k2]; decide)
    have h12 := hT.2.1
    refine s_M_formOfTypes_2 ⟨(am_kk hB rfl), am_nm_k h8 ?_⟩
    rintro _ rfl _ _
    refine ⟨fun h => absurd rfl h, fun _ => ⟨(am_kk hB rfl), _, (am_rf hB rfl), (am_kk hB rfl), m_srt hB hT hi hc (fun z e2 _ => ⟨fun h => absurd (e2.mpr k2) h, fun _ => ⟨fun _ => ⟨(am_kk hB rfl), am_nm_k hi ?_⟩, fun h => absurd h (by omega)⟩⟩)⟩⟩
    rintro _ rfl _ _
    refine am_ar_i (by omega) (by omega) ⟨⟨by decide, (am_kk hB rfl)⟩, am_ar_i (by omega) (by omega) ?_⟩
    have f1 : fm_fr I (am_u I 101 7 ((i : Int) + 1)) := fm_up (by decide)
    refine ih (m + 1) (i + 1) (am_u I 101 7 ((i : Int) + 1)) (mt_fr hT f1) am_u_kk hl ((am_u_kn (by decide)).trans h8) (by omega) hw (fun z hz => by rw [show i + 1 + z = i + (z + 1) by omega]; exact ha (z + 1) (by omega)) (fun I' hb hc' => ?_)
    rw [show i + 1 + a = i + (a + 1) by omega] at hb hc'
    exact post I' ⟨fm_trans f1 hb.1, hb.2⟩ hc'
theorem m_types1 {w m : Nat} (hB : am_B K R) (h8 : I 101 8 = 1) (post : Q none (n, K, I, J, R)) : am_WP (d + 1) (31, 2, [.inr (.inl 101), .inl (w : Int), .inl (m : Int)], [], (0, 0), n, K, I, J, R) Q := by
  refine s_M_formOfTypes_2 ⟨(am_kk hB rfl), am_nm_k h8 ?_⟩
  rintro _ rfl _ _
  exact ⟨fun _ => post, fun h => absurd h (by decide)⟩
/-- formOfCons, already bad -/
theorem m_cons1 (hB : am_B K R) (h8 : I 101 8 = 1) (post : Q none (n, K, I, J, R)) : am_WP (d + 2) (am_entry 32 [.inr (.inl 101)] (n, K, I, J, R)) Q := by
  refine e_M_formOfCons (s_M_formOfCons_4 ⟨fun h => absurd h (by decide), fun _ => ⟨(am_kk hB rfl), am_nm_k h8 ?_⟩⟩)
  rintro _ rfl _ _
  exact ⟨fun _ => post, fun h => absurd h (by decide)⟩
theorem m_cons_dead {x : Int} (hB : am_B K R) (h8 : I 101 8 = 1) (hx : 0 ≤ x ∧ x ≤ 6) (post : Q none (n, K, I, J, R)) : am_WP (d + 2) (32, 38, [.inr (.inl 101), .inl x, .inl 1], [], (0, 0), n, K, I, J, R) Q := by
  refine s_M_formOfCons_38 (am_ar_i (by omega) (by omega) ⟨(am_kk hB rfl), am_nm_k h8 ?_⟩)
  rintro _ rfl _ _
  exact ⟨fun _ => s_M_formOfCons_61 (s_M_formOfCons_62 ⟨fun _ => s_M_formOfCons_4 ⟨fun _ => post, fun h => absurd rfl h⟩, fun h => absurd rfl h⟩), fun h => absurd h (by decide)⟩
theorem m_cons_ok (hB : am_B K R) : ∀ (as : List Nat) (m q : Nat) (I : Nat → Nat → Int), mt_T I J kd pl nu nm c → I 101 7 = (q : Int) → q ≤ c → I 101 8 = 0 → m + as.length ≤ 6 → cs_sp kd q as → (∀ (I' : Nat → Nat → Int) (e : Nat), fm_fr I I' → e + 1 = q + cs_sz as → e ≤ c → I' 101 7 = (e : Int) → I' 101 8 = 0 → kd e = 59 → Q none (n, K, I', J, R)) → am_WP (d + 2) (32, 4, [.inr (.inl 101), .inl (m : Int), .inl 1], [], (0, 0), n, K, I, J, R) Q := by
  intro as
  induction as with
  | nil => intro m q I _ _ _ _ _ h; exact h.elim
  | cons a as ih =>
    intro m q I hT hi hc h8 hm hs post
    obtain ⟨s1, s2, s3, s4⟩ := hs
    have hm' : m + (as.length + 1) ≤ 6 := hm
    have ez : cs_sz (a :: as) = (a + 2) + cs_sz as := rfl
    refine s_M_formOfCons_4 ⟨fun h => absurd h (by decide), fun _ => ⟨(am_kk hB rfl), am_nm_k h8 ?_⟩⟩
    rintro _ rfl _ _
    refine ⟨fun h => absurd rfl h, fun _ => ⟨fun _ => s_M_formOfCons_25 ⟨(am_kk hB rfl), m_isCon hB hT hi hc (fun _ => ⟨_, rfl, s_M_formOfCons_30 ⟨(am_kk hB rfl), m_takeSort (P := True) (Or.inl ⟨rfl, trivial⟩) hB hT hi hc h8 (fun _ => ⟨rfl, ?_⟩) (fun h => absurd trivial h)⟩⟩) (fun h => absurd s1 h)⟩, fun h => absurd h (by omega)⟩⟩
    have hl : q < c := mt_lt hT hc (by rw [s1]; decide) (by rw [s1]; decide)
    have f1 : fm_fr I (am_u I 101 7 ((q + 1 : Nat) : Int)) := fm_up (by decide)
    have n2 : kd (q + 1 + a) ≠ 2 := by
      rcases s4 with h | h
      · rw [h.2]; decide
      · rw [h.2.1]; decide
    refine s_M_formOfCons_33 ⟨(am_kk hB rfl), e_M_formOfTypes (m_types_ok (w := 3) hB a 0 (q + 1) _ (mt_fr hT f1) am_u_kk hl ((am_u_kn (by decide)).trans h8) (by omega) (by decide) s3 n2 (fun I2 f2 g1 g2 g3 => ⟨rfl, ?_⟩))⟩
    have f12 := fm_trans f1 f2
    have hT2 := mt_fr hT f12
    refine s_M_formOfCons_38 (am_ar_i (by omega) (by omega) ⟨(am_kk hB rfl), am_nm_k g3 ?_⟩)
    rintro _ rfl _ _
    refine ⟨fun h => absurd rfl h, fun _ => ⟨(am_kk hB rfl), m_isSign (by unfold tb_sg; decide) hB hT2 g1 g2 (fun h => ⟨_, rfl, s_M_formOfCons_54 ⟨fun h => absurd h (by decide), fun _ => s_M_formOfCons_62 ⟨fun h => absurd h (by decide), fun _ => ⟨(am_kk hB rfl), am_nm_k g1 ?_⟩⟩⟩⟩) (fun h => ⟨_, rfl, s_M_formOfCons_54 ⟨fun _ => s_M_formOfCons_61 (s_M_formOfCons_62 ⟨fun _ => s_M_formOfCons_4 ⟨fun _ => ?_, fun h => absurd rfl h⟩, fun h => absurd rfl h⟩), fun h => absurd rfl h⟩⟩)⟩⟩
    · rcases s4 with h' | ⟨ne, k1, rest⟩
      · exact absurd (h.symm.trans h'.2) (by decide)
      · have hl2 : q + 1 + a < c := mt_lt hT2 g2 (by rw [k1]; decide) (by rw [k1]; decide)
        have h12 := hT.2.1
        rintro _ rfl _ _
        refine am_ar_i (by omega) (by omega) ⟨⟨by decide, (am_kk hB rfl)⟩, ?_⟩
        have f3 : fm_fr I2 (am_u I2 101 7 (((q + 1 + a : Nat) : Int) + 1)) := fm_up (by decide)
        refine ih (m + 1) (q + (a + 2)) _ (mt_fr hT2 f3) (by rw [am_u_kk]; omega) (by omega) ((am_u_kn (by decide)).trans g3) (by omega) rest (fun I' e p1 p2 p3 p4 p5 p6 => post I' e (fm_trans (fm_trans f12 f3) p1) (by rw [ez]; omega) p3 p4 p5 p6)
    · rcases s4 with ⟨e1, k1⟩ | h'
      · subst e1
        exact post I2 (q + 1 + a) f12 (by rw [ez]; show q + 1 + a + 1 = q + (a + 2 + 0); omega) g2 g1 g3 k1
      · exact absurd h'.2.1 h
theorem m_cons_bad (hB : am_B K R) : ∀ (y m q k : Nat) (I : Nat → Nat → Int), mt_T I J kd pl nu nm c → I 101 7 = (q : Int) → q ≤ c → I 101 8 = 0 → m + y = 6 → cs_bd kd false y q k → (∀ I' : Nat → Nat → Int, fm_fr I I' → k ≤ c → I' 101 7 = (k : Int) → (I' 101 8 = 1 ∧ I' 101 9 = pl k ∨ I' 101 8 = 0 ∧ kd k ≠ 59) → Q none (n, K, I', J, R)) → am_WP (d + 2) (32, 4, [.inr (.inl 101), .inl (m : Int), .inl 1], [], (0, 0), n, K, I, J, R) Q := by
  intro y
  induction y with
  | zero =>
    intro m q k I hT hi hc h8 hm hk post
    have ek : k = q := hk
    subst ek
    refine s_M_formOfCons_4 ⟨fun h => absurd h (by decide), fun _ => ⟨(am_kk hB rfl), am_nm_k h8 ?_⟩⟩
    rintro _ rfl _ _
    refine ⟨fun h => absurd rfl h, fun _ => ⟨fun h => absurd (by omega) h, fun _ => ⟨(am_kk hB rfl), m_misplaced hB hT hi hc h8 (fun I' hb => ⟨rfl, ?_⟩)⟩⟩⟩
    have hT' := mt_fr hT hb.1
    have g : ∀ x : Int, am_WP (d + 2) (32, 30, [.inr (.inl 101), .inl (m : Int), .inl 1], [.inl x, .inr (.inl 101)], (0, 0), n, K, I', J, R) Q := fun x => s_M_formOfCons_30 ⟨(am_kk hB rfl), m_takeSort1 hB hb.2.2.1 ⟨rfl, s_M_formOfCons_33 ⟨(am_kk hB rfl), e_M_formOfTypes (m_types1 (w := 3) (m := 0) hB hb.2.2.1 ⟨rfl, m_cons_dead hB hb.2.2.1 ⟨by omega, by omega⟩ (post I' hb.1 hc hb.2.1 (Or.inl hb.2.2))⟩)⟩⟩⟩
    exact s_M_formOfCons_25 ⟨(am_kk hB rfl), m_isCon hB hT' hb.2.1 hc (fun _ => ⟨_, rfl, g 1⟩) (fun _ => ⟨_, rfl, g 0⟩)⟩
  | succ y ih =>
    intro m q k I hT hi hc h8 hm hk post
    refine s_M_formOfCons_4 ⟨fun h => absurd h (by decide), fun _ => ⟨(am_kk hB rfl), am_nm_k h8 ?_⟩⟩
    rintro _ rfl _ _
    refine ⟨fun h => absurd rfl h, fun _ => ⟨fun _ => s_M_formOfCons_25 ⟨(am_kk hB rfl), ?_⟩, fun h => absurd h (by omega)⟩⟩
    rcases hk with ⟨n3, ek⟩ | ⟨k3, a, a3, s3, s4⟩
    · subst ek
      refine m_isCon hB hT hi hc (fun h => absurd h n3) (fun _ => ⟨_, rfl, s_M_formOfCons_30 ⟨(am_kk hB rfl), m_takeSort (P := False) (Or.inr ⟨rfl, id⟩) hB hT hi hc h8 (fun h => h.elim) (fun _ I' hb => ⟨rfl, s_M_formOfCons_33 ⟨(am_kk hB rfl), e_M_formOfTypes (m_types1 (w := 3) (m := 0) hB hb.2.2.1 ⟨rfl, m_cons_dead hB hb.2.2.1 ⟨by omega, by omega⟩ (post I' hb.1 hc hb.2.1 (Or.inl hb.2.2))⟩)⟩⟩)⟩⟩)
    · have hl : q < c := mt_lt hT hc (by rw [k3]; decide) (by rw [k3]; decide)
      have f1 : fm_fr I (am_u I 101 7 ((q + 1 : Nat) : Int)) := fm_up (by decide)
      refine m_isCon hB hT hi hc (fun _ => ⟨_, rfl, s_M_formOfCons_30 ⟨(am_kk hB rfl), m_takeSort (P := True) (Or.inl ⟨rfl, trivial⟩) hB hT hi hc h8 (fun _ => ⟨rfl, ?_⟩) (fun h => absurd trivial h)⟩⟩) (fun h => absurd k3 h)
      refine s_M_formOfCons_33 ⟨(am_kk hB rfl), e_M_formOfTypes ?_⟩
      by_cases n2 : kd (q + 1 + a) = 2
      · -- one argument too many
        rcases s4 with h | h | h | h
        · exact absurd h.1 (by decide)
        · exact absurd h.1 (by decide)
        · obtain ⟨_, h1, h2, h3, ek⟩ := h
          have ea : a = 3 := by
            rcases h1 with h | h
            · exact h
            · exact absurd n2 h
          subst ea
          refine m_types_bad (w := 3) hB 3 0 (q + 1) _ (mt_fr hT f1) am_u_kk hl ((am_u_kn (by decide)).trans h8) rfl (by decide) (fun z hz => ?_) (fun I' hb hkc => ⟨rfl, m_cons_dead hB hb.2.2.1 ⟨by omega, by omega⟩ (post I' (fm_trans f1 hb.1) (by omega) (by rw [ek]; exact hb.2.1) (Or.inl ⟨hb.2.2.1, by rw [ek]; exact hb.2.2.2⟩))⟩)
          by_cases e : z = 3
          · subst e; exact n2
          · exact s3 z (by omega)
        · rw [h.2.1] at n2; exact absurd n2 (by decide)
      · refine m_types_ok (w := 3) hB a 0 (q + 1) _ (mt_fr hT f1) am_u_kk hl ((am_u_kn (by decide)).trans h8) (by omega) (by decide) s3 n2 (fun I2 f2 g1 g2 g3 => ⟨rfl, ?_⟩)
        have f12 := fm_trans f1 f2
        have hT2 := mt_fr hT f12
        refine s_M_formOfCons_38 (am_ar_i (by omega) (by omega) ⟨(am_kk hB rfl), am_nm_k g3 ?_⟩)
        rintro _ rfl _ _
        refine ⟨fun h => absurd rfl h, fun _ => ⟨(am_kk hB rfl), m_isSign (by unfold tb_sg; decide) hB hT2 g1 g2 (fun h => ⟨_, rfl, s_M_formOfCons_54 ⟨fun h => absurd h (by decide), fun _ => s_M_formOfCons_62 ⟨fun h => absurd h (by decide), fun _ => ⟨(am_kk hB rfl), am_nm_k g1 ?_⟩⟩⟩⟩) (fun h => ⟨_, rfl, s_M_formOfCons_54 ⟨fun _ => s_M_formOfCons_61 (s_M_formOfCons_62 ⟨fun _ => s_M_formOfCons_4 ⟨fun _ => ?_, fun h => absurd rfl h⟩, fun h => absurd rfl h⟩), fun h => absurd rfl h⟩⟩)⟩⟩
        · rcases s4 with h' | h' | h' | ⟨_, k1, rest⟩
          · exact absurd h'.1 (by decide)
          · exact absurd h'.1 (by decide)
          · exact absurd h h'.2.2.2.1
          · have hl2 : q + 1 + a < c := mt_lt hT2 g2 (by rw [k1]; decide) (by rw [k1]; decide)
            have h12 := hT.2.1
            rintro _ rfl _ _
            refine am_ar_i (by omega) (by omega) ⟨⟨by decide, (am_kk hB rfl)⟩, ?_⟩
            have f3 : fm_fr I2 (am_u I2 101 7 (((q + 1 + a : Nat) : Int) + 1)) := fm_up (by decide)
            exact ih (m + 1) (q + (a + 2)) k _ (mt_fr hT2 f3) (by rw [am_u_kk]; omega) (by omega) ((am_u_kn (by decide)).trans g3) (by omega) rest (fun I' p1 p2 p3 p4 => post I' (fm_trans (fm_trans f12 f3) p1) p2 p3 p4)
        · rcases s4 with h' | h' | h' | h'
          · exact absurd h'.1 (by decide)
          · exact absurd h'.1 (by decide)
          · obtain ⟨_, h1, h2, h3, ek⟩ := h'
            exact post I2 f12 (by omega) (by rw [ek]; exact g1) (Or.inr ⟨g3, by rw [ek]; exact h2⟩)
          · exact absurd h'.2.1 h
end MS
