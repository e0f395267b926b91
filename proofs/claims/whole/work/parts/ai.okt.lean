/-! TEXT: class and reference alike -/
section OKT
variable {L : Nat} {xs : Nat → Int}
theorem ok_text : am_ok L xs (am_Iv Rs L xs) 7 51 [] := by
  rintro ⟨n, C, I, J, R⟩ hIv
  have hIv0 := hIv
  obtain ⟨⟨hB, hK0, hI0⟩, hT, hp, r, r', h4, h5, hrr, hc⟩ := hIv
  clear hc
  have h4 : R 11 4 = some r := h4
  have h5 : R 11 5 = some r' := h5
  have hr' : r' = 41 ∨ r' = 71 := hrr.elim (fun q => Or.inr q.2) (fun q => Or.inl q.2)
  obtain ⟨s', hs', hsel, hss⟩ : ∃ s' : Nat, s' < 2 ∧ (I 101 14 = 0 ∧ s' = 1 ∨ I 101 14 ≠ 0 ∧ s' = 0) ∧ ∀ s : Nat, I 101 14 = (s : Int) → s ≠ s' := by
    by_cases e : I 101 14 = 0
    · exact ⟨1, by decide, Or.inl ⟨e, rfl⟩, fun s h => by omega⟩
    · refine ⟨0, by decide, Or.inr ⟨e, rfl⟩, fun s h q => ?_⟩
      subst q
      exact e h
  obtain ⟨t0, t1, t2, t3⟩ := hT
  have t0 : 0 ≤ I 13 1 := t0
  have t1 : I 13 1 ≤ 1200 := t1
  have t2 : I 101 1 = I 13 1 := t2
  have t3 : ∀ j : Nat, (j : Int) < I 13 1 → I 14 j = I 102 j % 256 := t3
  obtain ⟨len, hlen⟩ : ∃ len : Nat, I 13 1 = (len : Int) := ⟨(I 13 1).toNat, by omega⟩
  have hL : len ≤ 1200 := by omega
  have hby : ∀ j : Nat, j < len → 0 ≤ I 14 j ∧ I 14 j ≤ 255 := fun j hj => by
    rw [t3 j (by omega)]; omega
  have kr : C r' = .inl 5 := am_kq (i := 0) hB hr' (by decide) rfl
  have hI0' : ∀ a j : Nat, a < 11 → I a j = am_Zi xs a j := hI0
  -- what the reference starts from
  have pre : ∀ (I0 I5 : Nat → Nat → Int), (∀ a : Nat, a < 41 → I0 a = I a) → (∀ a j : Nat, 101 ≤ a → I5 a j = I a j) → I5 101 1 = (len : Int) ∧ (∀ j : Nat, j < len → I5 102 j % 256 = I0 14 j) ∧ (∀ j : Nat, j < len → 0 ≤ I0 14 j ∧ I0 14 j ≤ 255) ∧ (∀ a j : Nat, a < 11 → I0 a j = am_Zi xs a j) ∧ (I5 101 14 = 0 ∧ s' = 1 ∨ I5 101 14 ≠ 0 ∧ s' = 0) := by
    intro I0 I5 e0 e5
    have e14 : I0 14 = I 14 := e0 14 (by decide)
    refine ⟨(e5 _ _ (by decide)).trans (t2.trans hlen), fun j hj => ?_, fun j hj => ?_, fun a j ha => ?_, ?_⟩
    · rw [e5 _ _ (by decide), e14, t3 j (by omega)]
    · rw [e14]; exact hby j hj
    · rw [e0 a (by omega)]; exact hI0' a j ha
    · rw [e5 101 14 (by decide)]; exact hsel
  -- a text that fails
  have bsx : ∀ (I3 J2 : Nat → Nat → Int) (y : Int), (∀ a j : Nat, a ≠ 13 → ¬ (15 ≤ a ∧ a ≤ 17) → ¬ (r' ≤ a ∧ a ≤ r' + 29) → I3 a j = I a j) → am_bs L xs (n, C, am_u (am_u I3 11 7 y) 13 1 0, J2, R) := by
    intro I3 J2 y f3
    refine ⟨hB, hK0, fun a j ha => ?_⟩
    show am_u (am_u I3 11 7 y) 13 1 0 a j = _
    rw [am_u_ne (by omega), am_u_ne (by omega), f3 a j (by omega) (by omega) (by omega)]
    exact hI0' a j ha
  have fin : ∀ (I3 J2 I6 J6 : Nat → Nat → Int) (y : Int), (∀ a j : Nat, a ≠ 13 → ¬ (15 ≤ a ∧ a ≤ 17) → ¬ (r' ≤ a ∧ a ≤ r' + 29) → I3 a j = I a j) → (∀ a j : Nat, a ≠ 18 → a ≠ r' + 7 → a ≠ r' + 20 → J2 a j = J a j) → mx_fr s' (am_u (am_u I3 11 7 y) 13 1 0) I6 J2 J6 → I6 101 1 = 0 → I6 101 2 = y → am_Iv Rs L xs (n, C, I6, J6, R) := by
    intro I3 J2 I6 J6 y f3 fJ f6 q1 q2
    have lo : ∀ a j : Nat, a ≤ 100 → I6 a j = am_u (am_u I3 11 7 y) 13 1 0 a j := fun a j ha => f6.1 a j (by omega) (by omega) (by omega) (by omega) (by omega) (by omega)
    refine Iv_tx hIv0 h5 hs' hss ⟨fun a j g1 g2 g3 g4 g5 g6 g7 g8 g9 g10 => ?_, fun a j g1 g2 g3 g4 g5 => (f6.2 a j g4 g5).trans (fJ a j g1 g2 g3)⟩ ((lo _ _ (by decide)).trans am_u_kk) q1 ?_
    · rw [f6.1 a j g5 g6 g7 g8 g9 g10, am_u_ne g1, am_u_off g4]
      exact f3 a j g1 g2 g3
    · rw [lo 11 7 (by decide), am_u_ne (by decide), am_u_kk, q2]
  have lo3 : ∀ (I3 : Nat → Nat → Int) (y : Int), (∀ a j : Nat, a ≠ 13 → ¬ (15 ≤ a ∧ a ≤ 17) → ¬ (r' ≤ a ∧ a ≤ r' + 29) → I3 a j = I a j) → ∀ a j : Nat, 101 ≤ a → am_u (am_u I3 11 7 y) 13 1 0 a j = I a j := fun I3 y f3 a j ha => (am_u_ne (by omega)).trans ((am_u_ne (by omega)).trans (f3 a j (by omega) (by omega) (by omega)))
  refine e_X_text ⟨(am_kk hB rfl), 12, (am_rf hB rfl), (am_kk hB rfl), r', h5, (am_kk hB rfl), ?_⟩
  refine x_readSet (d := 1265) (len := len) (xs := xs) hB hr' hI0' hlen hL hby (fun I0 Ib J1 I2 J2 c t e0 hfin hR hT2 fr2 l2 hsp hx => ⟨_, rfl, ?_⟩) (fun I0 Ib J1 I2 J2 c k e0 hfin hT2 fr2 l2 hbd hkc h7 => ⟨_, rfl, ?_⟩)
  · have f2 : ∀ a j : Nat, a ≠ 13 → ¬ (15 ≤ a ∧ a ≤ 17) → ¬ (r' ≤ a ∧ a ≤ r' + 29) → I2 a j = I a j := fun a j g1 g2 g3 => fr2.1 a j g1 (by omega) (by omega) (by omega) g3
    obtain ⟨b6, b36, bg, bw1, bw4, bcr, bl0, b12, brw, b60, brsc⟩ := st_all hR (tk_pl hfin).1 hT2.2.2.2.2.2.2.1 hT2.2.2.2.2.2.2.2 hsp
    -- a fault in meaning
    have flt : ∀ (I3 : Nat → Nat → Int) (k : Int), xm_fr r' I2 I3 → 0 ≤ k → (∀ (Q : am_Q), (∀ I6 J6 : Nat → Nat → Int, mx_fr s' (am_u (am_u I3 11 7 k) 13 1 0) I6 J2 J6 → I6 101 1 = 0 → I6 101 2 = k → Q (some (.inl (-3))) (n, C, I6, J6, R)) → am_WP 1299 (am_entry 51 [.inr (.inl 101)] (n, C, am_u (am_u I3 11 7 k) 13 1 0, J2, R)) Q) → am_WP 1299 (7, 37, [.inr (.inl 11), .inl 1, am_o], [.inl k, .inr (.inl 11)], (0, 0), n, C, I3, J2, R) (fun v σ1 => ∃ z : Int, v = some (.inl z) ∧ am_bs L xs σ1 ∧ am_WP 1299 (am_entry 51 [.inr (.inl 101)] σ1) (fun v2 σ2 => v2 = some (.inl z) ∧ am_Iv Rs L xs σ2)) := by
      intro I3 k f3 hk hm
      have f3' : ∀ a j : Nat, a ≠ 13 → ¬ (15 ≤ a ∧ a ≤ 17) → ¬ (r' ≤ a ∧ a ≤ r' + 29) → I3 a j = I a j := fun a j g1 g2 g3 => (f3 a j (by omega) (by omega) (by omega) (by omega)).trans (f2 a j g1 g2 g3)
      exact x_txF (d := 1298) hB hk ⟨-3, rfl, bsx I3 J2 k f3', hm _ (fun I6 J6 f6 q1 q2 => ⟨rfl, fin I3 J2 I6 J6 k f3' fr2.2 f6 q1 q2⟩)⟩
    have pre3 : ∀ (I3 : Nat → Nat → Int) (k : Int), xm_fr r' I2 I3 → _ := fun I3 k f3 => pre I0 (am_u (am_u I3 11 7 k) 13 1 0) e0 (lo3 I3 k (fun a j g1 g2 g3 => (f3 a j (by omega) (by omega) (by omega) (by omega)).trans (f2 a j g1 g2 g3)))
    refine s_X_text_11 ⟨fun h => absurd h (by decide), fun _ => ⟨(am_kk hB rfl), r', h5, kr, x_findFault (d := 1281) hB hr' hx b6 b36 bg bw4 bcr b12 (fun w hw => (brw w hw).1) b60 (fun I3 k f3 hk k0 => ⟨_, rfl, s_X_text_24 (flt I3 k f3 k0 (fun Q post => ?_))⟩) (fun I3 k f3 hn hk k0 => ⟨_, rfl, s_X_text_24 (flt I3 k f3 k0 (fun Q post => ?_))⟩) (fun I3 f3 env hG hnn => ⟨_, rfl, s_X_text_24 ?_⟩)⟩⟩
    · obtain ⟨p1, p2, p3, p4, p5⟩ := pre3 I3 k f3
      refine m_textOk (d := 1292) (s := s') (F := I2) (G := J2) (aT := I3 (r' + 8)) (W := I3 (r' + 26)) hB p1 hL p2 p3 (mt_of p4 hfin hL) hsp hs' p5 brsc hx bg b36 (fun e1 _ => absurd (hk.symm.trans e1) (by simp)) (fun k2 hk2 I6 J6 f6 q1 q2 => ?_) (fun e1 => absurd (hk.symm.trans e1) (by simp)) (fun e1 => absurd (hk.symm.trans e1) (by simp)) (fun e1 => absurd (hk.symm.trans e1) (by simp))
      have ek : k = k2 := Option.some.inj (hk.symm.trans hk2)
      exact post I6 J6 f6 q1 (by rw [q2, ek])
    · obtain ⟨p1, p2, p3, p4, p5⟩ := pre3 I3 k f3
      refine m_textOk (d := 1292) (s := s') (F := I2) (G := J2) (aT := I3 (r' + 8)) (W := I3 (r' + 26)) hB p1 hL p2 p3 (mt_of p4 hfin hL) hsp hs' p5 brsc hx bg b36 (fun _ e1 => absurd (hk.symm.trans e1) (by simp)) (fun k2 hk2 => absurd (hk2.symm.trans hn) (by simp)) (fun _ k2 hk2 I6 J6 f6 q1 q2 => ?_) (fun _ e1 => absurd (hk.symm.trans e1) (by simp)) (fun _ e1 => absurd (hk.symm.trans e1) (by simp))
      have ek : k = k2 := Option.some.inj (hk.symm.trans hk2)
      exact post I6 J6 f6 q1 (by rw [q2, ek])
    · have hre := rE_of (s := s') hs' hsp hx bg b36 hR brsc env
      rcases hh : xm_rows I2 I3 J2 r' t with _ | k
      · -- all is well
        show am_WP 1299 (7, 37, [.inr (.inl 11), .inl 1, am_o], [.inl (-1), .inr (.inl 11)], (0, 0), n, C, I3, J2, R) _
        have hGn := hG hh
        have hB' := am_B_sw (x := some r') (y := some r) hB
        obtain ⟨h4', h5'⟩ := am_R_sw (R := R) (x := some r') (y := some r)
        refine s_X_text_37 ⟨⟨by decide, (am_kk hB rfl)⟩, (am_kk hB rfl), 12, (am_rf hB rfl), (am_kk hB rfl), 13, (am_rf hB rfl), ⟨by decide, (am_kk hB rfl)⟩, (am_kk hB rfl), am_nm_k (v := -1) ((am_u_ne (by decide)).trans am_u_kk) ?_⟩
        rintro _ rfl _ _
        refine ⟨fun _ => ⟨(am_kk hB rfl), r, h4, (am_kk hB rfl), r', h5, ⟨by decide, (am_kk hB rfl)⟩, ⟨by decide, (am_kk hB rfl)⟩, ⟨by decide, (am_kk hB rfl)⟩, Or.inr rfl, (am_kk hB rfl), 29, r_11_2 hB', (am_kk hB rfl), e_Trial_forget ⟨⟨by decide, (am_kk hB rfl)⟩, rfl, ?_⟩⟩, fun h => absurd rfl h⟩
        have z5 : ∀ a j : Nat, ¬ (a = 11 ∧ (j = 6 ∨ j = 7)) → ¬ (a = 13 ∧ j = 1) → ¬ (a = 29 ∧ j = 0) → am_u (am_u (am_u (am_u I3 11 7 (-1)) 13 1 0) 11 6 1) 29 0 0 a j = I3 a j := fun a j g1 g2 g3 => by
          rw [am_u_off g3, am_u_off (by omega), am_u_off g2, am_u_off (by omega)]
        have v7 : am_u (am_u (am_u (am_u I3 11 7 (-1)) 13 1 0) 11 6 1) 29 0 0 11 7 = -1 := by
          rw [am_u_ne (by decide), am_u_kn (by decide), am_u_ne (by decide), am_u_kk]
        have v6 : am_u (am_u (am_u (am_u I3 11 7 (-1)) 13 1 0) 11 6 1) 29 0 0 11 6 = 1 := by
          rw [am_u_ne (by decide), am_u_kk]
        have v13 : am_u (am_u (am_u (am_u I3 11 7 (-1)) 13 1 0) 11 6 1) 29 0 0 13 1 = 0 := by
          rw [am_u_ne (by decide), am_u_ne (by decide), am_u_kk]
        have v29 : am_u (am_u (am_u (am_u I3 11 7 (-1)) 13 1 0) 11 6 1) 29 0 0 29 0 = 0 := am_u_kk
        show am_WP 1299 (7, 101, [.inr (.inl 11), .inl 1, .inr (.inl r)], [], (0, 0), n, C, am_u (am_u (am_u (am_u I3 11 7 (-1)) 13 1 0) 11 6 1) 29 0 0, J2, am_u (am_u R 11 4 (some r')) 11 5 (some r)) _
        generalize am_u (am_u (am_u (am_u I3 11 7 (-1)) 13 1 0) 11 6 1) 29 0 0 = I5 at z5 v7 v6 v13 v29 ⊢
        generalize am_u (am_u R 11 4 (some r')) 11 5 (some r) = R' at hB' h4' h5' ⊢
        have e53 : ∀ x : Nat, r' ≤ x → x ≤ r' + 29 → I5 x = I3 x := fun x a1 a2 => funext fun j => z5 x j (by omega) (by omega) (by omega)
        have e52 : ∀ x : Nat, r' ≤ x → x ≤ r' + 29 → x ≠ r' + 8 → x ≠ r' + 14 → x ≠ r' + 22 → x ≠ r' + 26 → I5 x = I2 x := fun x a1 a2 a3 a4 a5 a6 => (e53 x a1 a2).trans (funext fun j => f3 x j a3 a4 a5 a6)
        have w2 := e52 (r' + 2) (by omega) (by omega) (by omega) (by omega) (by omega) (by omega)
        have w3 := e52 (r' + 3) (by omega) (by omega) (by omega) (by omega) (by omega) (by omega)
        have w4 := e52 (r' + 4) (by omega) (by omega) (by omega) (by omega) (by omega) (by omega)
        have w5 := e52 (r' + 5) (by omega) (by omega) (by omega) (by omega) (by omega) (by omega)
        have w6 := e52 (r' + 6) (by omega) (by omega) (by omega) (by omega) (by omega) (by omega)
        have w9 := e52 (r' + 9) (by omega) (by omega) (by omega) (by omega) (by omega) (by omega)
        have w12 := e52 (r' + 12) (by omega) (by omega) (by omega) (by omega) (by omega) (by omega)
        have w27 := e52 (r' + 27) (by omega) (by omega) (by omega) (by omega) (by omega) (by omega)
        have w8 := e53 (r' + 8) (by omega) (by omega)
        have w26 := e53 (r' + 26) (by omega) (by omega)
        have w0 := e52 r' (by omega) (by omega) (by omega) (by omega) (by omega) (by omega)
        have w1 := e52 (r' + 1) (by omega) (by omega) (by omega) (by omega) (by omega) (by omega)
        have w15 := e52 (r' + 15) (by omega) (by omega) (by omega) (by omega) (by omega) (by omega)
        obtain ⟨x1, x2, x3, x4, x5, x6, x7, x8, x9⟩ := hx
        have hE5 : rE I5 (I5 (r' + 8)) (I5 (r' + 26)) r' s' t.1.length (ts_cn t.1) t.2.1 := by
          have h1 := hre.1
          unfold rE at h1 ⊢
          rw [w2, w5, w6, w8, w9, w12, w26, w27]
          exact h1
        have hTy5 : tyS I5 r' t.1.length (ts_cn t.1) := by
          have h1 := hre.2
          unfold tyS at h1 ⊢
          rw [w2, w3, w4, w5, w6]
          exact h1
        have g3 : I5 r' 3 = (t.2.2.length : Int) := by rw [w0]; exact x6
        have g5 : xw_rows I5 J2 r' 0 0 t.2.2 := xw_rows_c7 (fun x a1 a2 a3 a4 => e52 x (by omega) a2 (by omega) (by omega) a3 a4) rfl t.2.2 0 0 x9
        have g6 : rs_G I5 (r' + 15) (fx (J2 (r' + 7)) (ts_cn t.1)) 0 t.2.2 := rs_G_cg (e53 (r' + 15 + 7) (by omega) (by omega)) t.2.2 0 hGn
        have g7 : rsf (fx (J2 (r' + 7)) (ts_cn t.1)) (I5 (r' + 5)) (I5 (r' + 6)) (I5 (r' + 8)) (I5 (r' + 26)) t.2.1 t.2.2 = none := by
          rw [w5, w6, w8, w26]
          exact hh
        refine s_X_text_101 ⟨(am_kk hB rfl), 31, r_11_3 hB', (am_kk hB rfl), r', h4', (am_kk hB rfl), x_begin (d := 1281) hB' hr' hE5 hTy5 bl0 b12 b60 g3 g5 g6 (fun w hw => (brw w hw).1) g7 (fun I6 f6 ak6 i31 xl6 => ⟨rfl, s_X_text_112 ⟨(am_kk hB rfl), r', h4', kr, am_nm_k (v := (t.2.2.length : Int)) (by rw [f6 r' (by omega)]; exact g3) ?_⟩⟩)⟩
        rintro _ rfl _ _
        have y6 : ∀ a j : Nat, a ≠ 13 → ¬ (15 ≤ a ∧ a ≤ 17) → ¬ (r' ≤ a ∧ a ≤ r' + 29) → a ≠ 11 → a ≠ 29 → ¬ (31 ≤ a ∧ a ≤ 39) → I6 a j = I a j := fun a j g1 g2 g3 g4 g5 g6 => by
          rw [f6 a g6, z5 a j (by omega) (by omega) (by omega), f3 a j (by omega) (by omega) (by omega) (by omega)]
          exact f2 a j g1 g2 g3
        obtain ⟨p1, p2, p3, p4, p5⟩ := pre I0 I6 e0 (fun a j ha => y6 a j (by omega) (by omega) (by omega) (by omega) (by omega) (by omega))
        refine ⟨_, rfl, ⟨hB', hK0, fun a j ha => (y6 a j (by omega) (by omega) (by omega) (by omega) (by omega) (by omega)).trans (hI0' a j ha)⟩, ?_⟩
        refine m_textOk (d := 1292) (s := s') (F := I2) (G := J2) (aT := I3 (r' + 8)) (W := I3 (r' + 26)) hB' p1 hL p2 p3 (mt_of p4 hfin hL) hsp hs' p5 brsc ⟨x1, x2, x3, x4, x5, x6, x7, x8, x9⟩ bg b36 (fun _ _ => hre.1) (fun k2 hk2 => absurd (hk2.symm.trans env.1) (by simp)) (fun _ k2 hk2 => absurd (hk2.symm.trans env.2.2.1) (by simp)) (fun _ _ k2 hk2 => absurd (hk2.symm.trans hh) (by simp)) (fun _ _ _ I7 J7 f7 q1 q2 q8 mt mr m116 m117 => ?_)
        obtain ⟨nmL, hnm⟩ : ∃ nmL : Nat → List Int, ∀ c : Nat, (c < ts_cn t.1 → wl_ok (nmL c) ∧ J7 110 (36 * s' + c) = wl_6 (nmL c) ∧ J2 (r' + 7) c = wl_2 (nmL c)) ∧ 0 < (nmL c).length ∧ (nmL c).length ≤ 8 := by
          apply Classical.axiomOfChoice (r := fun (c : Nat) (l : List Int) => (c < ts_cn t.1 → wl_ok l ∧ J7 110 (36 * s' + c) = wl_6 l ∧ J2 (r' + 7) c = wl_2 l) ∧ 0 < l.length ∧ l.length ≤ 8)
          intro c
          by_cases hc : c < ts_cn t.1
          · obtain ⟨-, -, -, l, l1, l2, l3⟩ := mt.2.2.2.2.2 c hc
            exact ⟨l, fun _ => ⟨l1, l2, l3⟩, by have := l1.2.1; omega, l1.2.2⟩
          · exact ⟨[97], fun h => absurd h hc, by decide, by decide⟩
        have hS5 : Sx I5 J2 r' s' t.2.2 t.1.length (ts_cn t.1) t.2.1 nmL := ⟨hr', hE5, hTy5, bw1, bl0, b12, b60, fun w hw => (brw w hw).1, g7, fun c hc => ⟨((hnm c).1 hc).1, ((hnm c).1 hc).2.2⟩, fun c => (hnm c).2, by rw [w0]; exact x4, g3, by rw [w0]; exact x8, g5, g6⟩
        have hS6 : Sx I6 J2 r' s' t.2.2 t.1.length (ts_cn t.1) t.2.1 nmL := Sx_fr (fun x a1 a2 => f6 x (by omega)) (fun _ _ _ => rfl) hS5
        have w6' : ∀ x : Nat, r' ≤ x → x ≤ r' + 29 → I6 x = I5 x := fun x a1 a2 => f6 x (by omega)
        have hM7 : Md I6 J2 r' s' t.2.2 t.1.length (ts_cn t.1) t.2.1 nmL I7 J7 := Md_c6 ((w6' _ (by omega) (by omega)).trans w2) ((w6' _ (by omega) (by omega)).trans w5) ((w6' _ (by omega) (by omega)).trans w6) ((w6' _ (by omega) (by omega)).trans w9) ((w6' _ (by omega) (by omega)).trans w12) ((w6' _ (by omega) (by omega)).trans w27) rfl ⟨mt, mr, m116, fun c hc => ((hnm c).1 hc).2.1⟩
        refine m_textEnd (d := 1292) hB' hS6 hM7 q8 (fun I8 f8 i14 i40 i129 nf yf => ⟨rfl, ?_⟩)
        have lo8 : ∀ a : Nat, a ≤ 100 → I8 a = I6 a := fun a ha => funext fun j => (f8 a j (by omega) (by omega)).trans (f7.1 a j (by omega) (by omega) (by omega) (by omega) (by omega) (by omega))
        have lJ8 : ∀ a : Nat, a ≤ 100 → J7 a = J2 a := fun a ha => funext fun j => f7.2 a j (by omega) (by omega)
        have hp8 : Rp r' I6 I8 J2 J7 := ⟨fun x a1 a2 => lo8 x (by omega), fun x a1 a2 => lJ8 x (by omega)⟩
        have e8 : ∀ a j : Nat, 107 ≤ a → a ≤ 121 → I8 a j = I7 a j := fun a j a1 a2 => f8 a j (by omega) (by omega)
        have u13 : I8 13 1 = 0 := by rw [lo8 13 (by decide), f6 13 (by decide)]; exact v13
        have u101 : I8 101 1 = 0 := (f8 _ _ (by decide) (by decide)).trans q1
        have u31 : I8 31 3 = 0 := by rw [lo8 31 (by decide)]; exact i31
        have uxl : xl [] I8 := xl_cg (by rw [lo8 32 (by decide)]) (lo8 33 (by decide)) xl6
        have eSa : Sa I8 J7 r' (ts_cn t.1) t.2.2 = Sa I5 J2 r' (ts_cn t.1) t.2.2 := Sa_cg ((lo8 _ (by omega)).trans (w6' _ (by omega) (by omega))) ((lo8 _ (by omega)).trans (w6' _ (by omega) (by omega))) (lJ8 _ (by omega))
        refine ⟨⟨hB', hK0, fun a j ha => ?_⟩, ⟨?_, ?_, ?_, fun j hj => ?_⟩, ?_, r', r, h4', h5', hrr.elim (fun q => Or.inr ⟨q.2, q.1⟩) (fun q => Or.inl ⟨q.2, q.1⟩), Or.inr ⟨?_, s', hs', i14, ?_, ?_, t.2.2, t.1.length, ts_cn t.1, t.2.1, nmL, ⟨Sx_fr hp8.1 hp8.2 hS6, fun w hw => (brw w hw).2, ?_, Md_cg hp8.1 hp8.2 (Md_fr e8 rfl hM7)⟩, ?_, fun ρ hρ => Or.inl (i129 ρ (by omega))⟩⟩
        · show I8 a j = _
          rw [lo8 a (by omega)]
          exact (y6 a j (by omega) (by omega) (by omega) (by omega) (by omega) (by omega)).trans (hI0' a j ha)
        · show 0 ≤ I8 13 1; omega
        · show I8 13 1 ≤ 1200; omega
        · show I8 101 1 = I8 13 1; omega
        · have hj : (j : Int) < I8 13 1 := hj
          omega
        · show I8 11 7 = I8 101 2
          rw [lo8 11 (by decide), f6 11 (by decide), v7, f8 101 2 (by decide) (by decide), q2]
        · show I8 11 6 = 1
          rw [lo8 11 (by decide), f6 11 (by decide)]; exact v6
        · show am_Cn I8 r' s'
          unfold am_Cn
          rw [lo8 (r' + 1) (by omega), lo8 r' (by omega), lo8 (r' + 15) (by omega), f6 (r' + 1) (by omega), f6 r' (by omega), f6 (r' + 15) (by omega), w1, w0, w15, e8 108 s' (by decide) (by decide), e8 109 s' (by decide) (by decide), e8 114 s' (by decide) (by decide), e8 116 s' (by decide) (by decide), e8 117 s' (by decide) (by decide)]
          exact ⟨x1.trans mt.1.symm, x2.trans mt.2.1.symm, x4.trans mt.2.2.1.symm, x6.trans m116.symm, x7.trans m117.symm⟩
        · refine lk_both (L := []) (by decide) ⟨?_, trivial⟩ i40 trivial
          show I8 29 0 = _
          rw [lo8 29 (by decide), f6 29 (by decide)]; exact v29
        · rw [eSa]
          obtain ⟨ns, k1, k2⟩ := ak6
          exact ⟨ns, xaC_fr k1 (fun x _ _ _ => lo8 x (by omega)), fun ρ hρ => (congrFun (lo8 38 (by decide)) ρ).trans (k2 ρ hρ)⟩
        · unfold Ex
          rw [Sme_cg hp8]
          rcases Classical.em (Sme I6 J2 r' t.2.2 (ts_cn t.1) (Sg (rsg t.2.2) t.2.2.length) (fun _ => -1)) with hS | hS
          · obtain ⟨y1, K', y2, y3⟩ := yf hS
            refine Or.inr ⟨hS, y1, K', by rw [Fse_cg hp8]; exact y2, by rw [Txt_cg hp8]; exact y3, Or.inl ⟨u31, uxl⟩⟩
          · exact Or.inl ⟨hS, nf hS, uxl, Or.inl u31⟩
      · -- a fault in a row
        have k0 := hnn k hh
        refine flt I3 k f3 k0 (fun Q post => ?_)
        obtain ⟨p1, p2, p3, p4, p5⟩ := pre3 I3 k f3
        refine m_textOk (d := 1292) (s := s') (F := I2) (G := J2) (aT := I3 (r' + 8)) (W := I3 (r' + 26)) hB p1 hL p2 p3 (mt_of p4 hfin hL) hsp hs' p5 brsc hx bg b36 (fun _ _ => hre.1) (fun k2 hk2 => absurd (hk2.symm.trans env.1) (by simp)) (fun _ k2 hk2 => absurd (hk2.symm.trans env.2.2.1) (by simp)) (fun _ _ k2 hk2 I6 J6 f6 q1 q2 => ?_) (fun _ _ e3 => absurd (hh.symm.trans e3) (by simp))
        have ek : k = k2 := Option.some.inj (hh.symm.trans hk2)
        exact post I6 J6 f6 q1 (by rw [q2, ek])
  · have f2 : ∀ a j : Nat, a ≠ 13 → ¬ (15 ≤ a ∧ a ≤ 17) → ¬ (r' ≤ a ∧ a ≤ r' + 29) → I2 a j = I a j := fun a j g1 g2 g3 => fr2.1 a j g1 (by omega) (by omega) (by omega) g3
    obtain ⟨p1, p2, p3, p4, p5⟩ := pre I0 (am_u (am_u I2 11 7 (Ib 16 k)) 13 1 0) e0 (lo3 I2 (Ib 16 k) f2)
    refine s_X_text_11 ⟨fun _ => ⟨(am_kk hB rfl), 12, (am_rf hB rfl), (am_kk hB rfl), 13, (am_rf hB rfl), (am_kk hB rfl), x_at hB hT2 h7 hkc ⟨_, rfl, x_txF (d := 1298) hB ((tk_pl hfin).1 k hkc) ⟨-2, rfl, bsx I2 J2 _ f2, m_textBad (d := 1292) (s := s') hB p1 hL p2 p3 (mt_of p4 hfin hL) hbd hkc (fun I6 J6 f6 q1 q2 => ⟨rfl, fin I2 J2 I6 J6 _ f2 fr2.2 f6 q1 q2⟩)⟩⟩⟩, fun h => absurd rfl h⟩
end OKT
