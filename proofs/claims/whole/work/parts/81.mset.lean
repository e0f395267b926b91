/-! THE REFERENCE'S FORM OF A SET: all of it -/
section MF
variable {d n : Nat} {K : Nat → am_K} {I0 I J : Nat → Nat → Int} {R : Nat → Nat → Option Nat} {Q : am_Q} {kd pl nu nm : Nat → Int} {c k : Nat}
theorem fs_types_ok (hB : am_B K R) : ∀ (ts : List ty) (p j x : Nat) (I : Nat → Nat → Int), mt_T I J kd pl nu nm c → I 101 7 = (p : Int) → p ≤ c → I 101 8 = 0 → x + ts.length ≤ 6 → ts_sp kd p ts j → (∀ I' : Nat → Nat → Int, fm_fr I I' → I' 101 7 = (j : Int) → j ≤ c → I' 101 8 = 0 → am_WP (d + 6) (30, 2, [.inr (.inl 101), .inl ((x + ts.length : Nat) : Int), am_o], [], (0, 0), n, K, I', J, R) Q) → am_WP (d + 6) (30, 2, [.inr (.inl 101), .inl (x : Int), am_o], [], (0, 0), n, K, I, J, R) Q := by
  intro ts
  induction ts with
  | nil =>
    intro p j x I hT hi hc h8 hx hs post
    have e : p = j := hs
    subst e
    exact post I fm_refl hi hc h8
  | cons t ts ih =>
    intro p j x I hT hi hc h8 hx hs post
    obtain ⟨m, ⟨h1, rfl⟩, h3⟩ := hs
    have hx' : x + (ts.length + 1) ≤ 6 := hx
    refine fs_type hB hT hi hc h8 ⟨by omega, by omega⟩ h1 (fun I1 f1 g1 g2 g3 => ?_)
    refine ih (p + ty_sz t) j (x + 1) I1 (mt_fr hT f1) g1 g2 g3 (by omega) h3 (fun I2 f2 q1 q2 q3 => ?_)
    have := post I2 (fm_trans f1 f2) q1 q2 q3
    rw [show x + (t :: ts).length = x + 1 + ts.length by show x + (ts.length + 1) = _; omega] at this
    exact this
theorem fs_155_bad {p : Nat} {x1 : Int} (hB : am_B K R) (hT : mt_T I J kd pl nu nm c) (hi : I 101 7 = (p : Int)) (hc : p ≤ c) (h8 : I 101 8 = 0) (n8 : kd p ≠ 8) (bad : ∀ I' : Nat → Nat → Int, fo_bad pl I I' p → Q none (n, K, I', J, R)) : am_WP (d + 6) (30, 155, [.inr (.inl 101), .inl x1, am_o], [], (0, 0), n, K, I, J, R) Q :=
  s_M_formOfSet_155 ⟨(am_kk hB rfl), m_isWord (Or.inr (Or.inr (Or.inl ⟨rfl, rfl⟩))) hB hT hi hc (fun h => absurd h n8) (fun _ => ⟨_, rfl, s_M_formOfSet_163 ⟨(am_kk hB rfl), m_takeSort (P := False) (Or.inr ⟨rfl, id⟩) hB hT hi hc h8 (fun h => h.elim) (fun _ I' hb => ⟨rfl, fd_166 hB hT hc (fo_of hb) bad⟩)⟩⟩)⟩
theorem fs_types_bad (hB : am_B K R) (hk : k ≤ c) : ∀ (y p x : Nat) (I : Nat → Nat → Int), mt_T I J kd pl nu nm c → I 101 7 = (p : Int) → p ≤ c → I 101 8 = 0 → x + y = 6 → ts_bd kd y p k → (∀ I' : Nat → Nat → Int, fo_bad pl I I' k → Q none (n, K, I', J, R)) → am_WP (d + 6) (30, 2, [.inr (.inl 101), .inl (x : Int), am_o], [], (0, 0), n, K, I, J, R) Q := by
  intro y
  induction y with
  | zero =>
    intro p x I hT hi hc h8 hx hb bad
    rcases hb with ⟨h67, ek⟩ | ⟨n6, n7, n8, ek⟩
    · subst ek
      have go : ∀ nw : Bool, kd p = (bif nw then 7 else 6) → am_WP (d + 6) (30, 2, [.inr (.inl 101), .inl (x : Int), am_o], [], (0, 0), n, K, I, J, R) Q := by
        intro nw hnw
        have f1 : fm_fr I (am_u I 101 7 ((p + 1 : Nat) : Int)) := fm_up (by decide)
        refine fs_head hB hT hi hc h8 hnw (s_M_formOfSet_64 ⟨fun h => absurd (by omega) h, fun _ => ⟨(am_kk hB rfl), m_misplaced hB (mt_fr hT f1) (i := p + 1) am_u_kk hk ((am_u_kn (by decide)).trans h8) (fun I' hb => ⟨rfl, fd_74 hB hT hk ⟨by omega, by omega⟩ (fo_tr f1 hb) bad⟩)⟩⟩)
      rcases h67 with h | h
      · exact go false h
      · exact go true h
    · subst ek
      exact fs_none hB hT hi hc h8 n6 n7 ⟨by omega, by omega⟩ (fun _ => fs_155_bad hB hT hi hc h8 n8 bad) (fun h => absurd h (by omega))
  | succ y ih =>
    intro p x I hT hi hc h8 hx hb bad
    rcases hb with ⟨y5, k8, ek⟩ | ⟨n6, n7, n8, ek⟩ | ⟨nw, hnw, hty⟩ | ⟨t, ht, hrest⟩
    · subst ek
      exact fs_none hB hT hi hc h8 (by rw [k8]; decide) (by rw [k8]; decide) ⟨by omega, by omega⟩ (fun h => absurd (by omega) h) (fun _ => bad)
    · subst ek
      exact fs_none hB hT hi hc h8 n6 n7 ⟨by omega, by omega⟩ (fun _ => fs_155_bad hB hT hi hc h8 n8 bad) (fun _ => bad)
    · have f1 : fm_fr I (am_u I 101 7 ((p + 1 : Nat) : Int)) := fm_up (by decide)
      have hl : p < c := mt_lt hT hc (by rw [hnw]; cases nw <;> decide) (by rw [hnw]; cases nw <;> decide)
      have xx : (0 : Int) ≤ (x : Int) ∧ (x : Int) < 6 := ⟨by omega, by omega⟩
      have bad1 : ∀ I' : Nat → Nat → Int, fo_bad pl (am_u I 101 7 ((p + 1 : Nat) : Int)) I' k → Q none (n, K, I', J, R) := fun I' hb => bad I' (fo_to (fo_fm f1) hb)
      refine fs_head hB hT hi hc h8 hnw (fs_name (k := k) hB (mt_fr hT f1) am_u_kk hl ((am_u_kn (by decide)).trans h8) xx hk (fun k2 k61 I2 f2 g1 g2 g3 => ?_) (fun h => ?_) (fun h h' => ?_) (fun _ => bad1))
      · have hcs : cs_bd kd nw 6 (p + 3) k := by
          rcases hty with h | h | h
          · exact absurd k2 h.1
          · exact absurd k61 h.2.1
          · exact h.2.2
        have f12 := fm_trans f1 f2
        have hT2 := mt_fr hT f12
        cases nw with
        | false =>
          refine s_M_formOfSet_102 ⟨fun h => absurd h (by decide), fun _ => ⟨(am_kk hB rfl), e_M_formOfCons (m_cons_bad hB 6 0 (p + 3) k I2 hT2 g1 g2 g3 rfl hcs (fun I3 f3 e2 e3 e4 => ⟨rfl, s_M_formOfSet_110 ?_⟩))⟩⟩
          have f13 := fm_trans f12 f3
          rcases e4 with e4 | e4
          · exact fd_143 hB hT hk ⟨by omega, by omega⟩ ⟨fo_fm f13, e3, e4.1, e4.2⟩ bad
          · exact fs_close hB (mt_fr hT f13) e3 e2 e4.1 xx (fun h => absurd h e4.2) (fun _ I' hb => bad I' (fo_to (fo_fm f13) hb))
        | true =>
          have dn : ∀ {I3 I' : Nat → Nat → Int}, fm_fr I I3 → fm_bad pl I3 I' k → fo_bad pl I I' k := fun f hb => fo_tr f hb
          rcases hcs with ⟨n3, ek⟩ | ⟨c1, a, ha, c3, c4⟩
          · subst ek
            exact s_M_formOfSet_102 ⟨fun _ => ⟨(am_kk hB rfl), m_isCon hB hT2 g1 g2 (fun h => absurd h n3) (fun _ => ⟨_, rfl, s_M_formOfSet_118 ⟨(am_kk hB rfl), m_takeSort (P := False) (Or.inr ⟨rfl, id⟩) hB hT2 g1 g2 g3 (fun h => h.elim) (fun _ I' hb => ⟨rfl, fd_121 hB hT hk ⟨by omega, by omega⟩ (dn f12 hb) bad⟩)⟩⟩)⟩, fun h => absurd rfl h⟩
          · have l1 : p + 3 < c := mt_lt hT2 g2 (by rw [c1]; decide) (by rw [c1]; decide)
            refine s_M_formOfSet_102 ⟨fun _ => ⟨(am_kk hB rfl), m_isCon hB hT2 g1 g2 (fun _ => ⟨_, rfl, s_M_formOfSet_118 ⟨(am_kk hB rfl), m_takeSort (P := True) (Or.inl ⟨rfl, trivial⟩) hB hT2 g1 g2 g3 (fun _ => ⟨rfl, ?_⟩) (fun h => absurd trivial h)⟩⟩) (fun h => absurd c1 h)⟩, fun h => absurd rfl h⟩
            have f3 : fm_fr I (am_u I2 101 7 ((p + 3 + 1 : Nat) : Int)) := fm_trans f12 (fm_up (by decide))
            have hT3 := mt_fr hT f3
            have g8 : am_u I2 101 7 ((p + 3 + 1 : Nat) : Int) 101 8 = 0 := (am_u_kn (by decide)).trans g3
            refine s_M_formOfSet_121 ⟨(am_kk hB rfl), _, (am_rf hB rfl), (am_kk hB rfl), m_srt hB hT3 (i := p + 3 + 1) am_u_kk l1 (fun z e2 _ => ⟨fun h => ?_, fun h => ?_⟩)⟩
            · have n2 : kd (p + 3 + 1) ≠ 2 := fun q => h (e2.mpr q)
              have ek : k = p + 3 + 1 := by
                rcases c4 with h' | h' | h' | h'
                · rw [h'.2.2.2, h'.2.1]
                · exact absurd (c3 0 (by omega)) n2
                · exact absurd h'.1 (by decide)
                · exact absurd h'.1 (by decide)
              subst ek
              exact s_M_formOfSet_140 ⟨(am_kk hB rfl), m_takeSort (P := False) (Or.inr ⟨rfl, id⟩) hB hT3 (i := p + 3 + 1) am_u_kk l1 g8 (fun h => h.elim) (fun _ I' hb => ⟨rfl, fd_143 hB hT hk ⟨by omega, by omega⟩ (dn f3 hb) bad⟩)⟩
            · have k2' := e2.mp h
              have l2 : p + 3 + 1 < c := mt_lt hT2 l1 (by rw [k2']; decide) (by rw [k2']; decide)
              have ek : k = p + 3 + 2 ∧ kd (p + 3 + 2) ≠ 59 := by
                rcases c4 with h' | h' | h' | h'
                · obtain ⟨_, e0, n2, _⟩ := h'
                  subst e0
                  exact absurd k2' n2
                · obtain ⟨_, e1, n2, ek⟩ := h'
                  subst e1
                  exact ⟨ek, n2⟩
                · exact absurd h'.1 (by decide)
                · exact absurd h'.1 (by decide)
              obtain ⟨ek, n59⟩ := ek
              subst ek
              refine s_M_formOfSet_140 ⟨(am_kk hB rfl), m_takeSort (P := True) (Or.inl ⟨rfl, trivial⟩) hB hT3 (i := p + 3 + 1) am_u_kk l1 g8 (fun _ => ⟨rfl, ?_⟩) (fun h => absurd trivial h)⟩
              have f4 : fm_fr I (am_u (am_u I2 101 7 ((p + 3 + 1 : Nat) : Int)) 101 7 ((p + 3 + 1 + 1 : Nat) : Int)) := fm_trans f3 (fm_up (by decide))
              exact fs_close (e := p + 3 + 2) hB (mt_fr hT f4) am_u_kk l2 ((am_u_kn (by decide)).trans g8) xx (fun h => absurd h n59) (fun _ I' hb => bad I' (fo_to (fo_fm f4) hb))
      · rcases hty with h' | h' | h'
        · exact h'.2
        · exact absurd h'.1 h
        · exact absurd h'.1 h
      · rcases hty with h2 | h2 | h2
        · exact absurd h h2.1
        · exact h2.2.2
        · exact absurd h2.2.1 h'
    · refine fs_type hB hT hi hc h8 ⟨by omega, by omega⟩ ht (fun I1 f1 g1 g2 g3 => ?_)
      exact ih (p + ty_sz t) (x + 1) I1 (mt_fr hT f1) g1 g2 g3 (by omega) hrest (fun I' hb => bad I' (fo_to (fo_fm f1) hb))
theorem fd_203 {x1 : Int} (hB : am_B K R) (hb : fo_bad pl I0 I k) (hQ : ∀ I' : Nat → Nat → Int, fo_bad pl I0 I' k → Q none (n, K, I', J, R)) : am_WP (d + 6) (30, 203, [.inr (.inl 101), .inl x1, am_o], [], (0, 0), n, K, I, J, R) Q := by
  refine s_M_formOfSet_203 ⟨(am_kk hB rfl), am_nm_k hb.2.1 ?_⟩
  rintro _ rfl _ _
  refine ⟨⟨by decide, (am_kk hB rfl)⟩, ⟨by decide, (am_kk hB rfl)⟩, fd_218 hB ⟨fo_ut (fo_ut hb.1 (by decide)) (by decide), ?_, ?_, ?_⟩ hQ⟩
  · rw [am_u_kn (by decide), am_u_kn (by decide)]; exact hb.2.1
  · rw [am_u_kn (by decide), am_u_kn (by decide)]; exact hb.2.2.1
  · rw [am_u_kn (by decide), am_u_kn (by decide)]; exact hb.2.2.2
/-- the token behind -/
theorem m_srt1 {P : Int → Prop} {i : Nat} (hB : am_B K R) (hT : mt_T I J kd pl nu nm c) (hi : I 101 7 = ((i + 1 : Nat) : Int)) (hc : i + 1 ≤ c) (h : ∀ z : Int, (z = 2 ↔ kd i = 2) → P z) : am_nm (I 101 7) fun z3 => am_ar (z3 - 1) fun z4 => ∃ n6 : Nat, K 103 = .inr (0, n6) ∧ (0 ≤ z4 ∧ z4 < (n6 : Int)) ∧ am_nm (I 103 z4.toNat) P := by
  have h12 := hT.2.1
  have hs := tr_sort (hT.1 i (by omega)).2
  refine am_nm_k hi ?_
  rintro _ rfl _ _
  refine am_ar_i (by omega) (by omega) ?_
  rw [show ((i + 1 : Nat) : Int) - 1 = (i : Int) by omega]
  refine ⟨_, (am_kk hB rfl), ⟨by omega, by omega⟩, fun z hz _ _ => ?_⟩
  have e : z = I 103 i := hz
  exact h z (by rw [e]; exact hs.2.1)
theorem fs_cols_ok {p w : Nat} {x1 : Int} (hB : am_B K R) (hT : mt_T I J kd pl nu nm c) (hi : I 101 7 = (p : Int)) (hc : p ≤ c) (h8 : I 101 8 = 0) (k8 : kd p = 8) (hw : co_sp kd p w) (post : ∀ I' : Nat → Nat → Int, fo_fr I I' → I' 101 7 = ((p + 2 + w : Nat) : Int) → p + 2 + w ≤ c → I' 101 8 = 0 → I' 101 10 = 0 → I' 101 11 = ((p + 2 + w : Nat) : Int) → am_WP (d + 6) (30, 218, [.inr (.inl 101), .inl x1, .inl 0], [], (0, 0), n, K, I', J, R) Q) : am_WP (d + 6) (30, 155, [.inr (.inl 101), .inl x1, am_o], [], (0, 0), n, K, I, J, R) Q := by
  obtain ⟨w0, w4, w2, w59⟩ := hw
  have l1 : p < c := mt_lt hT hc (by rw [k8]; decide) (by rw [k8]; decide)
  refine s_M_formOfSet_155 ⟨(am_kk hB rfl), m_isWord (Or.inr (Or.inr (Or.inl ⟨rfl, rfl⟩))) hB hT hi hc (fun _ => ⟨_, rfl, s_M_formOfSet_163 ⟨(am_kk hB rfl), m_takeSort (P := True) (Or.inl ⟨rfl, trivial⟩) hB hT hi hc h8 (fun _ => ⟨rfl, ?_⟩) (fun h => absurd trivial h)⟩⟩) (fun h => absurd k8 h)⟩
  have f1 : fm_fr I (am_u I 101 7 ((p + 1 : Nat) : Int)) := fm_up (by decide)
  refine s_M_formOfSet_166 ⟨(am_kk hB rfl), e_M_formOfTypes (m_types_ok (w := 4) hB w 0 (p + 1) _ (mt_fr hT f1) am_u_kk l1 ((am_u_kn (by decide)).trans h8) (by omega) (by decide) w2 (by rw [w59]; decide) (fun I2 f2 g1 g2 g3 => ⟨rfl, ?_⟩))⟩
  have f12 := fm_trans f1 f2
  have hT2 := mt_fr hT f12
  have l2 : p + 1 + w < c := mt_lt hT2 g2 (by rw [w59]; decide) (by rw [w59]; decide)
  have r197 : am_WP (d + 6) (30, 197, [.inr (.inl 101), .inl x1, am_o], [], (0, 0), n, K, I2, J, R) Q := by
    refine s_M_formOfSet_197 ⟨(am_kk hB rfl), m_takeSign (by unfold tb_sg; decide) hB hT2 g1 g2 g3 (fun _ => ⟨rfl, s_M_formOfSet_203 ⟨(am_kk hB rfl), am_nm_k am_u_kk ?_⟩⟩) (fun h => absurd w59 h)⟩
    rintro _ rfl _ _
    have e : p + 2 + w = p + 1 + w + 1 := by omega
    refine ⟨⟨by decide, (am_kk hB rfl)⟩, ⟨by decide, (am_kk hB rfl)⟩, post _ (fo_ut (fo_ut (fo_ut (fo_fm f12) (by decide)) (by decide)) (by decide)) ?_ (by omega) ?_ am_u_kk ?_⟩
    · rw [am_u_kn (by decide), am_u_kn (by decide), e]; exact am_u_kk
    · rw [am_u_kn (by decide), am_u_kn (by decide), am_u_kn (by decide)]; exact g3
    · rw [am_u_kn (by decide), e]; exact am_u_kk
  refine s_M_formOfSet_171 ⟨(am_kk hB rfl), am_nm_k g3 ?_⟩
  rintro _ rfl _ _
  have e : p + 1 + w = p + w + 1 := by omega
  refine ⟨fun h => absurd rfl h, fun _ => ⟨(am_kk hB rfl), _, (am_rf hB rfl), (am_kk hB rfl), m_srt1 (i := p + w) hB hT2 (by rw [g1, e]) (by omega) (fun z e2 => ⟨fun _ => r197, fun h => absurd (e2.mpr ?_) h⟩)⟩⟩
  have := w2 (w - 1) (by omega)
  rw [show p + 1 + (w - 1) = p + w by omega] at this
  exact this
theorem fs_cols_bad {p : Nat} {x1 : Int} (hB : am_B K R) (hT : mt_T I J kd pl nu nm c) (hi : I 101 7 = (p : Int)) (hc : p ≤ c) (h8 : I 101 8 = 0) (k8 : kd p = 8) (hw : co_bd kd p k) (bad : ∀ I' : Nat → Nat → Int, fo_bad pl I I' k → Q none (n, K, I', J, R)) : am_WP (d + 6) (30, 155, [.inr (.inl 101), .inl x1, am_o], [], (0, 0), n, K, I, J, R) Q := by
  obtain ⟨w, w4, w2, ek, hor, hor2⟩ := hw
  have l1 : p < c := mt_lt hT hc (by rw [k8]; decide) (by rw [k8]; decide)
  refine s_M_formOfSet_155 ⟨(am_kk hB rfl), m_isWord (Or.inr (Or.inr (Or.inl ⟨rfl, rfl⟩))) hB hT hi hc (fun _ => ⟨_, rfl, s_M_formOfSet_163 ⟨(am_kk hB rfl), m_takeSort (P := True) (Or.inl ⟨rfl, trivial⟩) hB hT hi hc h8 (fun _ => ⟨rfl, ?_⟩) (fun h => absurd trivial h)⟩⟩) (fun h => absurd k8 h)⟩
  have f1 : fm_fr I (am_u I 101 7 ((p + 1 : Nat) : Int)) := fm_up (by decide)
  refine s_M_formOfSet_166 ⟨(am_kk hB rfl), e_M_formOfTypes ?_⟩
  by_cases k2 : kd k = 2
  · have e4 : w = 4 := by
      rcases hor with h | h
      · exact h
      · exact absurd k2 h
    subst e4
    subst ek
    refine m_types_bad (w := 4) hB 4 0 (p + 1) _ (mt_fr hT f1) am_u_kk l1 ((am_u_kn (by decide)).trans h8) rfl (by decide) (fun z hz => ?_) (fun I' hb hkc => ⟨rfl, fd_171 hB hT hkc (fo_tr f1 hb) bad⟩)
    by_cases e : z = 4
    · subst e; exact k2
    · exact w2 z (by omega)
  · refine m_types_ok (w := 4) hB w 0 (p + 1) _ (mt_fr hT f1) am_u_kk l1 ((am_u_kn (by decide)).trans h8) (by omega) (by decide) w2 (by rw [← ek]; exact k2) (fun I2 f2 g1 g2 g3 => ⟨rfl, ?_⟩)
    have f12 := fm_trans f1 f2
    have hT2 := mt_fr hT f12
    rw [← ek] at g1 g2
    have r197 : kd k ≠ 59 → am_WP (d + 6) (30, 197, [.inr (.inl 101), .inl x1, am_o], [], (0, 0), n, K, I2, J, R) Q := fun n59 => s_M_formOfSet_197 ⟨(am_kk hB rfl), m_takeSign (by unfold tb_sg; decide) hB hT2 g1 g2 g3 (fun h => absurd h n59) (fun _ I' hb => ⟨rfl, fd_203 hB (fo_tr f12 hb) bad⟩)⟩
    refine s_M_formOfSet_171 ⟨(am_kk hB rfl), am_nm_k g3 ?_⟩
    rintro _ rfl _ _
    refine ⟨fun h => absurd rfl h, fun _ => ⟨(am_kk hB rfl), _, (am_rf hB rfl), (am_kk hB rfl), m_srt1 (i := p + w) hB hT2 (by rw [g1, ek]; omega) (by omega) (fun z e2 => ⟨fun h => ?_, fun _ => ⟨(am_kk hB rfl), m_misplaced hB hT2 g1 g2 g3 (fun I' hb => ⟨rfl, fd_197 hB hT g2 (fo_tr f12 hb) bad⟩)⟩⟩)⟩⟩
    refine r197 ?_
    rcases hor2 with h' | h'
    · subst h'
      have := e2.mp h
      rw [Nat.add_zero, k8] at this
      exact absurd this (by decide)
    · exact h'
/-- formOfRow, already bad -/
theorem m_row1 {x : Int} (hB : am_B K R) (hb : fo_bad pl I0 I k) (post : ∀ I' : Nat → Nat → Int, fo_bad pl I0 I' k → Q none (n, K, I', J, R)) : am_WP (d + 5) (am_entry 34 [.inr (.inl 101), .inl x] (n, K, I, J, R)) Q := by
  have b' : fo_bad pl I0 (am_u I 101 13 0) k := ⟨fo_ut hb.1 (by decide), (am_u_kn (by decide)).trans hb.2.1, (am_u_kn (by decide)).trans hb.2.2.1, (am_u_kn (by decide)).trans hb.2.2.2⟩
  refine e_M_formOfRow ⟨⟨by decide, (am_kk hB rfl)⟩, s_M_formOfRow_9 ⟨fun h => absurd h (by decide), fun _ => ⟨(am_kk hB rfl), am_nm_k b'.2.2.1 ?_⟩⟩⟩
  rintro _ rfl _ _
  exact ⟨fun _ => post _ b', fun h => absurd h (by decide)⟩
theorem fd_289 {x1 x2 : Int} (hB : am_B K R) (hx : 0 ≤ x2 ∧ x2 ≤ 12) (hb : fo_bad pl I0 I k) (hQ : ∀ I' : Nat → Nat → Int, fo_bad pl I0 I' k → Q none (n, K, I', J, R)) : am_WP (d + 6) (30, 289, [.inr (.inl 101), .inl x1, .inl x2], [], (0, 0), n, K, I, J, R) Q :=
  s_M_formOfSet_289 (am_ar_i (by omega) (by omega) (fd_218 hB hb hQ))
theorem fd_256 {x1 x2 : Int} (hB : am_B K R) (hT : mt_T I0 J kd pl nu nm c) (hk : k ≤ c) (hx : 0 ≤ x2 ∧ x2 ≤ 12) (hb : fo_bad pl I0 I k) (hQ : ∀ I' : Nat → Nat → Int, fo_bad pl I0 I' k → Q none (n, K, I', J, R)) : am_WP (d + 6) (30, 256, [.inr (.inl 101), .inl x1, .inl x2], [], (0, 0), n, K, I, J, R) Q := by
  refine s_M_formOfSet_256 ⟨(am_kk hB rfl), am_nm_k hb.2.2.1 ?_⟩
  rintro _ rfl _ _
  exact ⟨fun _ => ⟨(am_kk hB rfl), m_takeSign1 (by unfold tb_sg; decide) hB (mt_fo hT hb.1) hb.2.1 hk hb.2.2.1 ⟨rfl, fd_289 hB hx hb hQ⟩⟩, fun h => absurd h (by decide)⟩
theorem rw_sp_0 {i j : Nat} {w : rw0} (h : rw_sp kd pl nu nm i w j) : kd i ≠ 0 := by
  obtain ⟨h1, e, h2, -⟩ := h
  obtain ⟨ts, g, pe⟩ := w
  cases ts with
  | nil => exact absurd rfl h1
  | cons t ts =>
    obtain ⟨m, h3, -⟩ := h2
    have hb := ft_sp_bg h3
    intro h0
    rw [h0] at hb
    exact absurd hb (ft_le_nb (Or.inr (Or.inr (Or.inr rfl))))
/-- a row begins -/
theorem fs_row {i ρ : Nat} {x1 : Int} (hB : am_B K R) (hT : mt_T I J kd pl nu nm c) (hi : I 101 7 = (i : Int)) (hc : i ≤ c) (h8 : I 101 8 = 0) (h0 : kd i ≠ 0 ∨ ρ = 0) (hρ : ρ < 12) (post : am_WP (d + 5) (am_entry 34 [.inr (.inl 101), .inl (xt_v false)] (n, K, I, J, R)) (fun v s => v = none ∧ am_WP (d + 6) (30, 256, [.inr (.inl 101), .inl x1, .inl (ρ : Int)], [], (0, 0), s) Q)) : am_WP (d + 6) (30, 218, [.inr (.inl 101), .inl x1, .inl (ρ : Int)], [], (0, 0), n, K, I, J, R) Q := by
  have b : am_WP (d + 6) (30, 241, [.inr (.inl 101), .inl x1, .inl (ρ : Int)], [], (0, 0), n, K, I, J, R) Q := s_M_formOfSet_241 ⟨fun _ => s_M_formOfSet_251 ⟨(am_kk hB rfl), post⟩, fun h => absurd h (by omega)⟩
  refine s_M_formOfSet_218 ⟨(am_kk hB rfl), am_nm_k h8 ?_⟩
  rintro _ rfl _ _
  refine ⟨fun h => absurd rfl h, fun _ => ⟨(am_kk hB rfl), _, (am_rf hB rfl), (am_kk hB rfl), m_srt hB hT hi hc (fun z _ e0 => ⟨fun _ => b, fun h => ⟨fun h' => ?_, fun _ => b⟩⟩)⟩⟩
  have := e0.mp h
  omega
/-- behind the pats of a row -/
theorem fs_end {e ρ : Nat} {x1 : Int} (hB : am_B K R) (hT : mt_T I J kd pl nu nm c) (hi : I 101 7 = (e : Int)) (hc : e ≤ c) (h8 : I 101 8 = 0) (hρ : ρ < 12) (ok : ∀ (g : Bool) (j : Nat), (g = true ∧ kd e = 9 ∧ kd (e + 1) = 59 ∧ j = e + 2 ∨ g = false ∧ kd e = 59 ∧ j = e + 1) → ∀ I' : Nat → Nat → Int, fm_fr I I' → I' 101 7 = (j : Int) → j ≤ c → I' 101 8 = 0 → I' 101 10 = I 101 10 → am_WP (d + 6) (30, 218, [.inr (.inl 101), .inl x1, .inl ((ρ + 1 : Nat) : Int)], [], (0, 0), n, K, I', J, R) Q) (bad : ∀ k : Nat, (kd e ≠ 9 ∧ kd e ≠ 59 ∧ k = e ∨ kd e = 9 ∧ kd (e + 1) ≠ 59 ∧ k = e + 1) → ∀ I' : Nat → Nat → Int, fo_bad pl I I' k → Q none (n, K, I', J, R)) : am_WP (d + 6) (30, 256, [.inr (.inl 101), .inl x1, .inl (ρ : Int)], [], (0, 0), n, K, I, J, R) Q := by
  have h12 := hT.2.1
  refine s_M_formOfSet_256 ⟨(am_kk hB rfl), am_nm_k h8 ?_⟩
  rintro _ rfl _ _
  refine ⟨fun h => absurd rfl h, fun _ => ⟨(am_kk hB rfl), m_isWord (Or.inr (Or.inr (Or.inr ⟨rfl, rfl⟩))) hB hT hi hc (fun k9 => ⟨_, rfl, s_M_formOfSet_270 ⟨fun h => absurd h (by decide), fun _ => ⟨(am_kk hB rfl), am_nm_k hi ?_⟩⟩⟩) (fun n9 => ⟨_, rfl, s_M_formOfSet_270 ⟨fun _ => ⟨(am_kk hB rfl), m_takeSign (by unfold tb_sg; decide) hB hT hi hc h8 (fun k59 => ⟨rfl, s_M_formOfSet_289 (am_ar_i (by omega) (by omega) ?_)⟩) (fun n59 I' hb => ⟨rfl, fd_289 hB ⟨by omega, by omega⟩ (fo_of hb) (bad e (Or.inl ⟨n9, n59, rfl⟩))⟩)⟩, fun h => absurd rfl h⟩⟩)⟩⟩
  · have l1 : e < c := mt_lt hT hc (by rw [k9]; decide) (by rw [k9]; decide)
    rintro _ rfl _ _
    refine am_ar_i (by omega) (by omega) ⟨⟨by decide, (am_kk hB rfl)⟩, (am_kk hB rfl), ?_⟩
    have f1 : fm_fr I (am_u I 101 7 ((e : Int) + 1)) := fm_up (by decide)
    refine m_takeSign (by unfold tb_sg; decide) hB (mt_fr hT f1) (i := e + 1) am_u_kk l1 ((am_u_kn (by decide)).trans h8) (fun k59 => ⟨rfl, s_M_formOfSet_289 (am_ar_i (by omega) (by omega) ?_)⟩) (fun n59 I' hb => ⟨rfl, fd_289 hB ⟨by omega, by omega⟩ (fo_tr f1 hb) (bad (e + 1) (Or.inr ⟨k9, n59, rfl⟩))⟩)
    have l2 : e + 1 < c := mt_lt hT l1 (by rw [k59]; decide) (by rw [k59]; decide)
    exact ok true (e + 2) (Or.inl ⟨rfl, k9, k59, rfl⟩) _ (fm_trans f1 (fm_up (by decide))) am_u_kk l2 (by rw [am_u_kn (by decide), am_u_kn (by decide)]; exact h8) (by rw [am_u_kn (by decide), am_u_kn (by decide)])
  · have l1 : e < c := mt_lt hT hc (by rw [k59]; decide) (by rw [k59]; decide)
    exact ok false (e + 1) (Or.inr ⟨rfl, k59, rfl⟩) _ (fm_up (by decide)) am_u_kk l1 ((am_u_kn (by decide)).trans h8) (am_u_kn (by decide))
theorem fs_rows_ok {x1 : Int} (hB : am_B K R) : ∀ (ws : List rw0) (i j m ρ : Nat) (I : Nat → Nat → Int), mt_T I J kd pl nu nm c → I 101 7 = (i : Int) → i ≤ c → I 101 8 = 0 → I 101 10 = (m : Int) → ρ + ws.length ≤ 12 → (ρ = 0 → ws ≠ []) → m + rs_sz ws ≤ 60 → ls_sp (rw_sp kd pl nu nm) i ws j → kd j = 0 → (∀ I' : Nat → Nat → Int, fm_fr I I' → I' 101 8 = 0 → I' 101 10 = ((m + rs_sz ws : Nat) : Int) → Q none (n, K, I', J, R)) → am_WP (d + 6) (30, 218, [.inr (.inl 101), .inl x1, .inl (ρ : Int)], [], (0, 0), n, K, I, J, R) Q := by
  intro ws
  induction ws with
  | nil =>
    intro i j m ρ I hT hi hc h8 h10 hρ hne hm hs hj post
    have e : i = j := hs
    subst e
    have r0 : ρ ≠ 0 := fun h => hne h rfl
    refine s_M_formOfSet_218 ⟨(am_kk hB rfl), am_nm_k h8 ?_⟩
    rintro _ rfl _ _
    exact ⟨fun h => absurd rfl h, fun _ => ⟨(am_kk hB rfl), _, (am_rf hB rfl), (am_kk hB rfl), m_srt hB hT hi hc (fun z _ e0 => ⟨fun h => absurd (e0.mpr hj) h, fun _ => ⟨fun _ => post I fm_refl h8 h10, fun h => absurd h (by omega)⟩⟩)⟩⟩
  | cons w ws ih =>
    intro i j m ρ I hT hi hc h8 h10 hρ hne hm hs hj post
    obtain ⟨j1, hw, hrest⟩ := hs
    have hρ' : ρ + (ws.length + 1) ≤ 12 := hρ
    have es : rs_sz (w :: ws) = rw_sz w + rs_sz ws := rfl
    have h0 := rw_sp_0 hw
    obtain ⟨w1, e, w2, w3, w4⟩ := hw
    have nb : ¬ ft_bg false (kd e) := by
      rcases w4 with h | h
      · rw [h.2.1]; exact ft_le_nb (Or.inr (Or.inr (Or.inl rfl)))
      · rw [h.2.1]; exact ft_le_nb (Or.inr (Or.inl rfl))
    have mm : m + ls_sz (tm_sz 6) w.1 ≤ 60 := by
      have : rw_sz w = ls_sz (tm_sz 6) w.1 := rfl
      omega
    refine fs_row hB hT hi hc h8 (Or.inl h0) (by omega) (m_row_ok hB hT hi h8 h10 hc w1 w2 mm nb (fun I1 f1 g1 g2 g3 g4 => ⟨rfl, ?_⟩))
    refine fs_end hB (mt_fr hT f1) g1 g4 g2 (by omega) (fun g j2 hg I2 f2 q1 q2 q3 q4 => ?_) (fun k hk => ?_)
    · have e2 : j2 = j1 := by
        rcases hg with ⟨a1, a2, a3, a4⟩ | ⟨a1, a2, a3⟩ <;> rcases w4 with ⟨b1, b2, b3, b4⟩ | ⟨b1, b2, b3⟩
        · omega
        · omega
        · omega
        · omega
      subst e2
      have f12 := fm_trans f1 f2
      refine ih j2 j (m + rw_sz w) (ρ + 1) I2 (mt_fr hT f12) q1 q2 q3 (q4.trans g3) (by omega) (fun h => absurd h (by omega)) (by omega) hrest hj (fun I' f3 p1 p2 => post I' (fm_trans f12 f3) p1 (by rw [p2, es, Nat.add_assoc]))
    · exfalso
      rcases hk with ⟨a1, a2, a3⟩ | ⟨a1, a2, a3⟩ <;> rcases w4 with ⟨b1, b2, b3, b4⟩ | ⟨b1, b2, b3⟩
      · exact a1 b2
      · exact a2 b2
      · exact a2 b3
      · exact absurd (a1.symm.trans b2) (by decide)
theorem fs_rows_bad {x1 : Int} (hB : am_B K R) (hk : k ≤ c) : ∀ (y i m ρ : Nat) (I : Nat → Nat → Int), mt_T I J kd pl nu nm c → I 101 7 = (i : Int) → i ≤ c → I 101 8 = 0 → I 101 10 = (m : Int) → m ≤ 60 → ρ + y = 12 → rs_bd kd pl nu nm y i m k → (∀ I' : Nat → Nat → Int, fo_bad pl I I' k → Q none (n, K, I', J, R)) → am_WP (d + 6) (30, 218, [.inr (.inl 101), .inl x1, .inl (ρ : Int)], [], (0, 0), n, K, I, J, R) Q := by
  intro y
  induction y with
  | zero =>
    intro i m ρ I hT hi hc h8 h10 hm hρ hb bad
    obtain ⟨h0, ek⟩ := hb
    subst ek
    refine s_M_formOfSet_218 ⟨(am_kk hB rfl), am_nm_k h8 ?_⟩
    rintro _ rfl _ _
    refine ⟨fun h => absurd rfl h, fun _ => ⟨(am_kk hB rfl), _, (am_rf hB rfl), (am_kk hB rfl), m_srt hB hT hi hc (fun z _ e0 => ⟨fun _ => s_M_formOfSet_241 ⟨fun h => absurd (by omega) h, fun _ => ⟨(am_kk hB rfl), m_misplaced hB hT hi hc h8 (fun I' hb => ⟨rfl, s_M_formOfSet_251 ⟨(am_kk hB rfl), m_row1 hB (fo_of hb) (fun I2 hb2 => ⟨rfl, fd_256 hB hT hc ⟨by omega, by omega⟩ hb2 bad⟩)⟩⟩)⟩⟩, fun h => absurd (e0.mp h) h0⟩)⟩⟩
  | succ y ih =>
    intro i m ρ I hT hi hc h8 h10 hm hρ hb bad
    have xx : (0 : Int) ≤ (ρ : Int) ∧ (ρ : Int) ≤ 12 := ⟨by omega, by omega⟩
    have fbl : (kd i ≠ 0 ∨ ρ = 0) → ft_bl kd pl nu nm false 6 i m k → am_WP (d + 6) (30, 218, [.inr (.inl 101), .inl x1, .inl (ρ : Int)], [], (0, 0), n, K, I, J, R) Q := by
      intro hor hbl
      refine fs_row hB hT hi hc h8 hor (by omega) (m_row_bad hB hT hi h8 h10 hc hm hbl (fun I1 f1 g1 g2 g3 => ⟨rfl, ?_⟩) hk)
      rcases g3 with g3 | g3
      · exact fd_256 hB hT hk xx ⟨fo_fm f1, g2, g3.1, g3.2⟩ bad
      · have nle := g3.2
        refine fs_end hB (mt_fr hT f1) g2 hk g3.1 (by omega) (fun g j2 hg => ?_) (fun k' hk' I' hb' => ?_)
        · exfalso
          rcases hg with ⟨a1, a2, a3⟩ | ⟨a1, a2, a3⟩
          · exact nle (Or.inr (Or.inr (Or.inl a2)))
          · exact nle (Or.inr (Or.inl a2))
        · rcases hk' with ⟨a1, a2, a3⟩ | ⟨a1, a2, a3⟩
          · subst a3
            exact bad I' (fo_to (fo_fm f1) hb')
          · exact absurd (Or.inr (Or.inr (Or.inl a1))) nle
    rcases hb with ⟨y11, k0, ek⟩ | ⟨h0, hr⟩ | ⟨h0, w, j1, hw, hm2, hrest⟩
    · subst ek
      refine fbl (Or.inr (by omega)) ⟨[], k, rfl, by show m + 0 ≤ 60; omega, fun h => absurd rfl h, Or.inl ⟨Or.inr ?_, rfl⟩⟩
      rw [k0]
      exact ft_le_nb (Or.inr (Or.inr (Or.inr rfl)))
    · rcases hr with hbl | ⟨ts, e, t1, t2, t3, t4, t5⟩
      · exact fbl (Or.inl h0) hbl
      · refine fs_row hB hT hi hc h8 (Or.inl h0) (by omega) (m_row_ok hB hT hi h8 h10 hc t1 t2 t3 (ft_le_nb t4) (fun I1 f1 g1 g2 g3 g4 => ⟨rfl, ?_⟩))
        refine fs_end hB (mt_fr hT f1) g1 g4 g2 (by omega) (fun g j2 hg => ?_) (fun k' hk' I' hb => ?_)
        · exfalso
          rcases hg with ⟨a1, a2, a3, a4⟩ | ⟨a1, a2, a3⟩ <;> rcases t5 with ⟨b1, b2, b3⟩ | ⟨b1, b2, b3⟩
          · exact b1 a2
          · exact b2 a3
          · exact b2 a2
          · exact absurd (b1.symm.trans a2) (by decide)
        · have ek : k' = k := by
            rcases hk' with ⟨a1, a2, a3⟩ | ⟨a1, a2, a3⟩ <;> rcases t5 with ⟨b1, b2, b3⟩ | ⟨b1, b2, b3⟩
            · omega
            · exact absurd b1 a1
            · exact absurd a1 b1
            · omega
          subst ek
          exact bad I' (fo_to (fo_fm f1) hb)
    · obtain ⟨w1, e, w2, w3, w4⟩ := hw
      have nb : ¬ ft_bg false (kd e) := by
        rcases w4 with h | h
        · rw [h.2.1]; exact ft_le_nb (Or.inr (Or.inr (Or.inl rfl)))
        · rw [h.2.1]; exact ft_le_nb (Or.inr (Or.inl rfl))
      refine fs_row hB hT hi hc h8 (Or.inl h0) (by omega) (m_row_ok hB hT hi h8 h10 hc w1 w2 hm2 nb (fun I1 f1 g1 g2 g3 g4 => ⟨rfl, ?_⟩))
      refine fs_end hB (mt_fr hT f1) g1 g4 g2 (by omega) (fun g j2 hg I2 f2 q1 q2 q3 q4 => ?_) (fun k' hk' => ?_)
      · have e2 : j2 = j1 := by
          rcases hg with ⟨a1, a2, a3, a4⟩ | ⟨a1, a2, a3⟩ <;> rcases w4 with ⟨b1, b2, b3, b4⟩ | ⟨b1, b2, b3⟩
          · omega
          · omega
          · omega
          · omega
        subst e2
        have f12 := fm_trans f1 f2
        exact ih j2 (m + rw_sz w) (ρ + 1) I2 (mt_fr hT f12) q1 q2 q3 (q4.trans g3) hm2 (by omega) hrest (fun I' hb => bad I' (fo_to (fo_fm f12) hb))
      · exfalso
        rcases hk' with ⟨a1, a2, a3⟩ | ⟨a1, a2, a3⟩ <;> rcases w4 with ⟨b1, b2, b3, b4⟩ | ⟨b1, b2, b3⟩
        · exact a1 b2
        · exact a2 b2
        · exact a2 b3
        · exact absurd (a1.symm.trans b2) (by decide)
theorem m_set_ok {t : st0} (hB : am_B K R) (hT : mt_T I J kd pl nu nm c) (hi : I 101 7 = 0) (h8 : I 101 8 = 0) (ht : st_sp kd pl nu nm t) (post : ∀ I' : Nat → Nat → Int, fo_fr I I' → I' 101 8 = 0 → I' 101 10 = (rs_sz t.2.2 : Int) → I' 101 11 = ((ts_sz t.1 + 2 + t.2.1 : Nat) : Int) → Q none (n, K, I', J, R)) : am_WP (d + 6) (am_entry 30 [.inr (.inl 101)] (n, K, I, J, R)) Q := by
  obtain ⟨s1, s2, s3, s4, s5, ⟨j, s6, s7⟩, s8, s9, s10⟩ := ht
  have l0 : 0 < t.1.length := List.length_pos_iff.mpr s4
  refine e_M_formOfSet (fs_types_ok hB t.1 0 (ts_sz t.1) 0 I hT hi (Nat.zero_le _) h8 (by omega) s1 (fun I1 f1 g1 g2 g3 => ?_))
  refine fs_none hB (mt_fr hT f1) g1 g2 g3 (by rw [s2]; decide) (by rw [s2]; decide) ⟨by omega, by omega⟩ (fun _ => fs_cols_ok hB (mt_fr hT f1) g1 g2 g3 s2 s5 (fun I2 f2 q1 q2 q3 q4 q5 => ?_)) (fun h => absurd h (by omega))
  have f12 := fo_trans (fo_fm f1) f2
  refine fs_rows_ok hB t.2.2 (ts_sz t.1 + 2 + t.2.1) j 0 0 I2 (mt_fo hT f12) q1 q2 q3 q4 (by omega) (fun _ => s8) (by omega) s6 s7 (fun I3 f3 p1 p2 => post I3 (fo_trans f12 (fo_fm f3)) p1 (by rw [p2, Nat.zero_add]) ?_)
  exact (f3 101 11 (by decide) (by decide)).trans q5
theorem m_set_bad (hB : am_B K R) (hT : mt_T I J kd pl nu nm c) (hi : I 101 7 = 0) (h8 : I 101 8 = 0) (hk : k ≤ c) (ht : st_bd kd pl nu nm k) (bad : ∀ I' : Nat → Nat → Int, fo_bad pl I I' k → Q none (n, K, I', J, R)) : am_WP (d + 6) (am_entry 30 [.inr (.inl 101)] (n, K, I, J, R)) Q := by
  rcases ht with ht | ⟨ts, s1, s2, s3, s4, s5⟩
  · exact e_M_formOfSet (fs_types_bad hB hk 6 0 0 I hT hi (Nat.zero_le _) h8 rfl ht bad)
  · have l0 : 0 < ts.length := List.length_pos_iff.mpr s4
    refine e_M_formOfSet (fs_types_ok hB ts 0 (ts_sz ts) 0 I hT hi (Nat.zero_le _) h8 (by omega) s1 (fun I1 f1 g1 g2 g3 => ?_))
    refine fs_none hB (mt_fr hT f1) g1 g2 g3 (by rw [s2]; decide) (by rw [s2]; decide) ⟨by omega, by omega⟩ (fun _ => ?_) (fun h => absurd h (by omega))
    rcases s5 with s5 | ⟨w, s5, s6⟩
    · exact fs_cols_bad hB (mt_fr hT f1) g1 g2 g3 s2 s5 (fun I' hb => bad I' (fo_to (fo_fm f1) hb))
    · refine fs_cols_ok hB (mt_fr hT f1) g1 g2 g3 s2 s5 (fun I2 f2 q1 q2 q3 q4 q5 => ?_)
      have f12 := fo_trans (fo_fm f1) f2
      exact fs_rows_bad hB hk 12 (ts_sz ts + 2 + w) 0 0 I2 (mt_fo hT f12) q1 q2 q3 q4 (by decide) rfl s6 (fun I' hb => bad I' (fo_to f12 hb))
end MF
