/-! MEANING: the reference's types and columns -/
def mm_fin (s : Nat) (k : Int) (I I' J J' : Nat → Nat → Int) : Prop := mm_fr s I I' J J' ∧ I' 101 8 = 1 ∧ I' 101 9 = k
theorem mm_ft {s : Nat} {k : Int} {I I1 I2 J J1 J2 : Nat → Nat → Int} (h : mm_fr s I I1 J J1) (h' : mm_fin s k I1 I2 J1 J2) : mm_fin s k I I2 J J2 := ⟨mm_trans h h'.1, h'.2⟩
section MZ
variable {d n : Nat} {K : Nat → am_K} {R : Nat → Nat → Option Nat} {Q : am_Q} {kd pl nu nm : Nat → Int} {c s : Nat} {g nw : Nat → Int} {N m : Nat} {F G : Nat → Nat → Int} {r : Nat}
theorem md_381 {I0 I J0 J : Nat → Nat → Int} {k x2 : Int} (hB : am_B K R) (hb : mm_bad s k I0 I J0 J) (hQ : ∀ I' J' : Nat → Nat → Int, mm_fin s k I0 I' J0 J' → Q none (n, K, I', J', R)) : am_WP (d + 6) (39, 322, [.inr (.inl 101), .inl (s : Int), .inl x2, am_o], [], (0, 0), n, K, I, J, R) Q := by
  obtain ⟨b1, b2, b3, b4, b5⟩ := hb
  refine s_M_meaningOfSet_322 ⟨(am_kk hB rfl), am_nm_k b2 ?_⟩
  rintro _ rfl _ _
  refine ⟨fun _ => s_M_meaningOfSet_381 ⟨(am_kk hB rfl), fun z1 hz1 _ _ => am_ar_i (by omega) (by omega) ⟨⟨by decide, (am_kk hB rfl)⟩, s_M_meaningOfSet_391 ⟨(am_kk hB rfl), am_nm_k (show am_u I 101 7 (z1 + 1) 101 8 = 1 from (am_u_kn (by decide)).trans b2) ?_⟩⟩⟩, fun h => absurd h (by decide)⟩
  rintro _ rfl _ _
  exact ⟨fun _ => hQ _ _ ⟨mm_ut b1 (mm_101 (Or.inl rfl)), (am_u_kn (by decide)).trans b2, (am_u_kn (by decide)).trans b3⟩, fun h => absurd h (by decide)⟩
theorem md_209 {I0 I J0 J : Nat → Nat → Int} {k x2 : Int} (hB : am_B K R) (hb : mm_bad s k I0 I J0 J) (hQ : ∀ I' J' : Nat → Nat → Int, mm_fin s k I0 I' J0 J' → Q none (n, K, I', J', R)) : am_WP (d + 6) (39, 209, [.inr (.inl 101), .inl (s : Int), .inl x2, am_o], [], (0, 0), n, K, I, J, R) Q := by
  have hb' := hb
  obtain ⟨b1, b2, b3, b4, b5⟩ := hb
  refine s_M_meaningOfSet_209 ⟨(am_kk hB rfl), am_nm_k b2 ?_⟩
  rintro _ rfl _ _
  refine ⟨fun _ => s_M_meaningOfSet_301 ⟨(am_kk hB rfl), fun z1 hz1 _ _ => ⟨(am_kk hB rfl), am_nm_k b2 ?_⟩⟩, fun h => absurd h (by decide)⟩
  rintro _ rfl _ _
  refine ⟨fun h => absurd h (by decide), fun _ => s_M_meaningOfSet_318 (am_ar_i (by omega) (by omega) ⟨⟨by decide, (am_kk hB rfl)⟩, ?_⟩)⟩
  rw [hz1, Int.add_zero, am_u_self]
  exact md_381 hB hb' hQ
theorem m_tys (hB : am_B K R) (hs : s < 2) (hm : m ≤ 36) (hN : N ≤ 6) (hn : ∀ T : Nat, T < N → nw T = 0 ∨ nw T = 1) (hg : ∀ T : Nat, g T = F (r + 9) T) : ∀ (ts : List ty) (T C p j X : Nat) (I J : Nat → Nat → Int), mt_T I J kd pl nu nm c → I 101 7 = (p : Int) → I 101 8 = 0 → ts_sp kd p ts j → kd j = 8 → j ≤ c → c ≤ 1200 → xs_types F G r pl nu nm T C p ts → ts_rg pl nu p ts → T + ts.length = N → C + ts_cn ts = m → X < 67108864 → (∀ l : Nat, l < 26 → (X.testBit l = true ↔ ∃ j : Nat, j < T ∧ g j = (l : Int))) → I 108 s = (T : Int) → I 109 s = (C : Int) → mc_ok F G r s C I J → (∀ l : Nat, l < 26 → I 107 (26 * s + l) = kx g nw N (l : Int)) →
    (tsf (lx g N) (fx (G (r + 7)) m) pl nu nm T C p ts = none → ∀ (X' : Nat) (I' J' : Nat → Nat → Int), mm_fr s I I' J J' → I' 101 8 = 0 → I' 101 7 = (j : Int) → I' 108 s = (N : Int) → I' 109 s = (m : Int) → mc_ok F G r s m I' J' → (∀ l : Nat, I' 107 l = I 107 l) → I' 114 s = I 114 s → I' 116 s = I 116 s → I' 117 s = I 117 s → am_WP (d + 6) (39, 209, [.inr (.inl 101), .inl (s : Int), .inl (X' : Int), am_o], [], (0, 0), n, K, I', J', R) Q) →
    (∀ k : Int, tsf (lx g N) (fx (G (r + 7)) m) pl nu nm T C p ts = some k → ∀ I' J' : Nat → Nat → Int, mm_fin s k I I' J J' → Q none (n, K, I', J', R)) → am_WP (d + 6) (39, 209, [.inr (.inl 101), .inl (s : Int), .inl (X : Int), am_o], [], (0, 0), n, K, I, J, R) Q := by
  intro ts
  induction ts with
  | nil =>
    intro T C p j X I J hT h7 h8 hsp k8 hjc hc12 hxs hrg hTN hCm hX hXb h108 h109 hmc hL ok bad
    have e : p = j := hsp
    subst e
    have eT : T = N := by
      have : T + 0 = N := hTN
      omega
    have eC : C = m := by
      have : C + 0 = m := hCm
      omega
    subst eT
    subst eC
    exact ok rfl X I J mm_refl h8 h7 h108 h109 hmc (fun _ => rfl) rfl rfl rfl
  | cons t ts ih =>
    intro T C p j X I J hT h7 h8 hsp k8 hjc hc12 hxs hrg hTN hCm hX hXb h108 h109 hmc hL ok bad
    have hjz := ts_sp_sz _ _ _ hsp
    have ez : ts_sz (t :: ts) = ty_sz t + ts_sz ts := rfl
    have ey : ty_sz t = 3 + cs_sz t.2 := rfl
    have hTN' : T + (ts.length + 1) = N := hTN
    have hCm' : C + (t.2.length + ts_cn ts) = m := hCm
    obtain ⟨q0, ⟨hty, rfl⟩, hrest⟩ := hsp
    obtain ⟨t1, t2, t3, t4, t5, t6⟩ := hty
    obtain ⟨x1, x2, x3, x4, x5, x6, x7⟩ := hxs
    obtain ⟨g1, g2, g3, g4⟩ := hrg
    obtain ⟨l, hl⟩ : ∃ l : Nat, nu (p + 1) = (l : Int) := ⟨(nu (p + 1)).toNat, by omega⟩
    have gT : g T = (l : Int) := by rw [hg, x1, hl]
    have ixs : (0 : Int) ≤ (s : Int) ∧ (s : Int) < ((2 : Nat) : Int) := ⟨by omega, by omega⟩
    have hk8 : kd p ≠ 8 := by rw [t1]; cases t.1 <;> decide
    have hd := fx_dup (h := g) (m := N) (C := T) (x := (l : Int)) (by omega) gT
    have et : tsf (lx g N) (fx (G (r + 7)) m) pl nu nm T C p (t :: ts) = (if lx g N (nu (p + 1)) ≠ (T : Int) then some (pl (p + 1)) else oe (csf (lx g N) (fx (G (r + 7)) m) pl nu nm C (p + 3) t.2) (tsf (lx g N) (fx (G (r + 7)) m) pl nu nm (T + 1) (C + t.2.length) (p + ty_sz t) ts)) := rfl
    have hX2 : X ||| 2 ^ l < 2 ^ 26 := Nat.or_lt_two_pow (by omega) (Nat.pow_lt_pow_right (by decide) (by omega))
    -- behind the test
    have b266 : ∀ (I1 : Nat → Nat → Int), I1 101 7 = ((p + 1 : Nat) : Int) → I1 108 s = (T : Int) → am_WP (d + 5) (am_entry 41 [.inr (.inl 101), .inl (s : Int), .inl (l : Int)] (n, K, am_u (am_u I1 108 s ((T + 1 : Nat) : Int)) 101 7 ((p + 3 : Nat) : Int), J, R)) (fun v10 s11 => v10 = none ∧ am_WP (d + 6) (39, 209, [.inr (.inl 101), .inl (s : Int), .inl ((X ||| 2 ^ l : Nat) : Int), am_o], [], (0, 0), s11) Q) → am_WP (d + 6) (39, 266, [.inr (.inl 101), .inl (s : Int), .inl (X : Int), .inl (l : Int)], [], (0, 0), n, K, I1, J, R) Q := by
      intro I1 a7 a108 h
      have hp2 : 2 ^ l < 2 ^ 26 := Nat.pow_lt_pow_right (by decide) (by omega)
      refine s_M_meaningOfSet_266 (am_nm_k (am_shl1 (by omega)) ?_)
      rintro _ rfl _ _
      refine am_nm_k (am_orn (by omega) (by omega)) ?_
      rintro _ rfl _ _
      refine ⟨(am_kk hB rfl), 108, (am_rf hB rfl), _, (am_kk hB rfl), ixs, am_nm_k a108 ?_⟩
      rintro _ rfl _ _
      refine am_ar_i (by omega) (by omega) ⟨_, by decide, (am_kk hB rfl), ixs, (am_kk hB rfl), am_nm_k (show am_u I1 108 s ((T : Int) + 1) 101 7 = ((p + 1 : Nat) : Int) from (am_u_ne (by decide)).trans a7) ?_⟩
      rintro _ rfl _ _
      refine am_ar_i (by omega) (by omega) ⟨⟨by decide, (am_kk hB rfl)⟩, (am_kk hB rfl), ?_⟩
      refine am_WP.mono ?_ h
      rintro v ⟨n', K', I', J', R'⟩ ⟨hv, hw⟩
      exact ⟨hv, s_M_meaningOfSet_298 (am_WP.forget hw _ (am_le_eq (am_le_eq (am_le_eq (am_le_o am_le_nil)))))⟩
    have b262 : (lx g N (nu (p + 1)) ≠ (T : Int)) → am_WP (d + 6) (39, 262, [.inr (.inl 101), .inl (s : Int), .inl (X : Int), .inl (l : Int)], [], (0, 0), n, K, am_u I 101 7 ((p + 1 : Nat) : Int), J, R) Q := by
      intro hne
      rw [if_pos hne] at et
      have f1 : mm_fr s I (am_u I 101 7 ((p + 1 : Nat) : Int)) J J := mm_ut mm_refl (mm_101 (Or.inl rfl))
      refine s_M_meaningOfSet_262 ⟨(am_kk hB rfl), m_mispl hB (mt_mm hT f1) (i := p + 1) am_u_kk (by omega) ((am_u_kn (by decide)).trans h8) ⟨rfl, b266 _ ?_ ?_ ?_⟩⟩
      · rw [am_u_kn (by decide), am_u_kn (by decide)]; exact am_u_kk
      · rw [am_u_ne (by decide), am_u_ne (by decide), am_u_ne (by decide)]; exact h108
      · have f2 : mm_fr s I (am_u (am_u (am_u (am_u (am_u I 101 7 ((p + 1 : Nat) : Int)) 101 8 1) 101 9 (pl (p + 1))) 108 s ((T + 1 : Nat) : Int)) 101 7 ((p + 3 : Nat) : Int)) J J := mm_ut (mm_ut (mm_ut (mm_ut f1 (mm_101 (by omega))) (mm_101 (by omega))) (mm_tb ⟨by decide, by decide⟩ (by show 1 * s ≤ s; omega) (by show s < 1 * s + 1; omega))) (mm_101 (by omega))
        have c8 : am_u (am_u (am_u (am_u (am_u I 101 7 ((p + 1 : Nat) : Int)) 101 8 1) 101 9 (pl (p + 1))) 108 s ((T + 1 : Nat) : Int)) 101 7 ((p + 3 : Nat) : Int) 101 8 = 1 := by rw [am_u_kn (by decide), am_u_ne (by decide), am_u_kn (by decide)]; exact am_u_kk
        have c9 : am_u (am_u (am_u (am_u (am_u I 101 7 ((p + 1 : Nat) : Int)) 101 8 1) 101 9 (pl (p + 1))) 108 s ((T + 1 : Nat) : Int)) 101 7 ((p + 3 : Nat) : Int) 101 9 = pl (p + 1) := by rw [am_u_kn (by decide), am_u_ne (by decide)]; exact am_u_kk
        have c7 : am_u (am_u (am_u (am_u (am_u I 101 7 ((p + 1 : Nat) : Int)) 101 8 1) 101 9 (pl (p + 1))) 108 s ((T + 1 : Nat) : Int)) 101 7 ((p + 3 : Nat) : Int) 101 7 = ((p + 3 : Nat) : Int) := am_u_kk
        generalize am_u (am_u (am_u (am_u (am_u I 101 7 ((p + 1 : Nat) : Int)) 101 8 1) 101 9 (pl (p + 1))) 108 s ((T + 1 : Nat) : Int)) 101 7 ((p + 3 : Nat) : Int) = I2 at f2 c8 c9 c7 ⊢
        refine mc_dead (v := .inl 0) hB c8 ⟨by omega, by omega⟩ ⟨rfl, ?_⟩
        rw [am_u_self]
        exact md_209 hB ⟨f2, c8, c9, by omega, by omega⟩ (fun I' J' hb => bad _ et I' J' hb)
    have b266ok : lx g N (nu (p + 1)) = (T : Int) → am_WP (d + 6) (39, 266, [.inr (.inl 101), .inl (s : Int), .inl (X : Int), .inl (l : Int)], [], (0, 0), n, K, am_u I 101 7 ((p + 1 : Nat) : Int), J, R) Q := by
      intro heq
      rw [if_neg (fun q => q heq)] at et
      refine b266 _ am_u_kk ((am_u_ne (by decide)).trans h108) ?_
      have f2 : mm_fr s I (am_u (am_u (am_u I 101 7 ((p + 1 : Nat) : Int)) 108 s ((T + 1 : Nat) : Int)) 101 7 ((p + 3 : Nat) : Int)) J J := mm_ut (mm_ut (mm_ut mm_refl (mm_101 (by omega))) (mm_tb ⟨by decide, by decide⟩ (by show 1 * s ≤ s; omega) (by show s < 1 * s + 1; omega))) (mm_101 (by omega))
      have ot : ∀ a i : Nat, a ≠ 101 → a ≠ 108 → am_u (am_u (am_u I 101 7 ((p + 1 : Nat) : Int)) 108 s ((T + 1 : Nat) : Int)) 101 7 ((p + 3 : Nat) : Int) a i = I a i := fun a i a1 a2 => by rw [am_u_ne a1, am_u_ne a2, am_u_ne a1]
      have c8 : am_u (am_u (am_u I 101 7 ((p + 1 : Nat) : Int)) 108 s ((T + 1 : Nat) : Int)) 101 7 ((p + 3 : Nat) : Int) 101 8 = 0 := by rw [am_u_kn (by decide), am_u_ne (by decide), am_u_kn (by decide), h8]
      have c7 : am_u (am_u (am_u I 101 7 ((p + 1 : Nat) : Int)) 108 s ((T + 1 : Nat) : Int)) 101 7 ((p + 3 : Nat) : Int) 101 7 = ((p + 3 : Nat) : Int) := am_u_kk
      have c108 : am_u (am_u (am_u I 101 7 ((p + 1 : Nat) : Int)) 108 s ((T + 1 : Nat) : Int)) 101 7 ((p + 3 : Nat) : Int) 108 s = ((T + 1 : Nat) : Int) := by rw [am_u_ne (by decide)]; exact am_u_kk
      generalize am_u (am_u (am_u I 101 7 ((p + 1 : Nat) : Int)) 108 s ((T + 1 : Nat) : Int)) 101 7 ((p + 3 : Nat) : Int) = I2 at f2 ot c8 c7 c108 ⊢
      have el : (l : Int) = F (r + 9) T := by rw [← hg, gT]
      rw [el]
      refine mc_cons (g := g) (nw := nw) (N := N) (m := m) (T := T) (G := G) hB hs hm hn (by rw [x1]; exact g1) t.2 C (p + 3) I2 J (mt_mm hT f2) c7 c8 (by omega) t4 x6 (by omega) ((ot _ _ (by decide) (by decide)).trans h109) (fun c' hc' => ?_) (fun i hi => (ot _ _ (by decide) (by decide)).trans (hL i hi)) (fun e9 I3 J3 p1 p2 p3 p4 p5 p6 p7 p8 => ⟨rfl, ?_⟩) (fun k e9 I3 J3 hb => ⟨rfl, ?_⟩)
      · obtain ⟨o1, o2, o3, o4⟩ := hmc c' hc'
        exact ⟨(ot _ _ (by decide) (by decide)).trans o1, (ot _ _ (by decide) (by decide)).trans o2, fun z z3 hz => (ot _ _ (by decide) (by decide)).trans (o3 z z3 hz), o4⟩
      · rw [e9] at et
        have et : tsf (lx g N) (fx (G (r + 7)) m) pl nu nm T C p (t :: ts) = tsf (lx g N) (fx (G (r + 7)) m) pl nu nm (T + 1) (C + t.2.length) (p + ty_sz t) ts := et
        have fr3 := mm_trans f2 p1
        have e7 : p + 3 + cs_sz t.2 = p + ty_sz t := by omega
        refine ih (T + 1) (C + t.2.length) (p + ty_sz t) j (X ||| 2 ^ l) I3 J3 (mt_mm hT fr3) (by rw [p3, e7]) p2 hrest k8 hjc hc12 x7 g4 (by omega) (by omega) (by omega) (fun i hi => ?_) (p5.trans c108) p4 p6 (fun i hi => (p7 _).trans ((ot _ _ (by decide) (by decide)).trans (hL i hi))) (fun e10 X' I4 J4 q1 q2 q3 q4 q5 q6 q7 q8 q9 q10 => ?_) (fun k e10 I4 J4 hb => bad k (et.trans e10) I4 J4 (mm_ft fr3 hb))
        · rw [Nat.testBit_or, Bool.or_eq_true, hXb i hi, Nat.testBit_two_pow]
          constructor
          · rintro (⟨j', h1, h2⟩ | h)
            · exact ⟨j', by omega, h2⟩
            · have : l = i := by simpa using h
              exact ⟨T, by omega, by rw [gT, this]⟩
          · rintro ⟨j', h1, h2⟩
            by_cases e : j' = T
            · right
              rw [e, gT] at h2
              have : l = i := by omega
              simp [this]
            · exact Or.inl ⟨j', by omega, h2⟩
        · have n114 : ∀ a i : Nat, 114 ≤ a → a ≤ 121 → I3 a i = I a i := fun a i a1 a2 => (p8 a i a1 a2).trans (ot _ _ (by omega) (by omega))
          exact ok (et.trans e10) X' I4 J4 (mm_trans fr3 q1) q2 q3 q4 q5 q6 (fun i => (q7 i).trans ((p7 i).trans (ot _ _ (by decide) (by decide)))) (q8.trans (n114 _ _ (by decide) (by decide))) (q9.trans (n114 _ _ (by decide) (by decide))) (q10.trans (n114 _ _ (by decide) (by decide)))
      · rw [e9] at et
        exact md_209 hB (mm_bt f2 hb) (fun I' J' hb' => bad k et I' J' hb')
    refine s_M_meaningOfSet_209 ⟨(am_kk hB rfl), am_nm_k h8 ?_⟩
    rintro _ rfl _ _
    refine ⟨fun h => absurd rfl h, fun _ => ⟨(am_kk hB rfl), m_isWord (Or.inr (Or.inr (Or.inl ⟨rfl, rfl⟩))) hB hT h7 (by omega) (fun h => absurd h hk8) (fun _ => ⟨_, rfl, s_M_meaningOfSet_223 ⟨fun h => absurd rfl h, fun _ => ⟨(am_kk hB rfl), am_nm_k h7 ?_⟩⟩⟩)⟩⟩
    rintro _ rfl _ _
    have f1 : mm_fr s I (am_u I 101 7 ((p : Int) + 1)) J J := mm_ut mm_refl (mm_101 (Or.inl rfl))
    refine am_ar_i (by omega) (by omega) ⟨⟨by decide, (am_kk hB rfl)⟩, (am_kk hB rfl), 105, (am_rf hB rfl), (am_kk hB rfl), am_nm_k (show am_u I 101 7 ((p : Int) + 1) 101 7 = ((p + 1 : Nat) : Int) from am_u_kk) ?_⟩
    rintro _ rfl _ _
    refine m_let (i := p + 1) hB hT (by omega) t2 ?_
    rw [hl]
    refine ⟨fun h => b262 ?_, fun h z8 hz8 _ _ z9 hz9 _ _ => ?_⟩
    · rw [hl]
      unfold lx
      rw [if_pos h]; omega
    · have l8 : lx g N (nu (p + 1)) = fx g N (l : Int) := by
        rw [hl]; unfold lx; rw [if_neg h]
      rw [hz8, am_bit (by omega) (by omega)] at hz9
      refine ⟨fun h1 => b266ok ?_, fun h1 => b262 ?_⟩
      · rw [l8]
        rcases Decidable.em (fx g N (l : Int) = (T : Int)) with q | q
        · exact q
        · exfalso
          apply h1
          rw [hz9, (hXb l (by omega)).mpr (hd.mp q)]; rfl
      · rw [l8]
        apply hd.mpr
        apply (hXb l (by omega)).mp
        rcases hb : X.testBit l with _ | _
        · rw [hb] at hz9
          rw [hz9] at h1
          exact absurd h1 (by decide)
        · rfl
end MZ
