/-! MEANING: the reference's types, all of them -/
section MY
variable {d n : Nat} {K : Nat → am_K} {R : Nat → Nat → Option Nat} {Q : am_Q} {kd pl nu nm : Nat → Int} {c s : Nat} {g nw : Nat → Int} {N m : Nat} {F G : Nat → Nat → Int} {r : Nat}
theorem fx_dup {h : Nat → Int} {m C : Nat} {x : Int} (hC : C < m) (hx : h C = x) : fx h m x ≠ (C : Int) ↔ ∃ j : Nat, j < C ∧ h j = x := by
  constructor
  · intro hne
    rcases fx_cases h x m with ⟨-, h2⟩ | ⟨k, h1, h2, h3, h4⟩
    · exact absurd hx (h2 C hC)
    · have : k ≤ C := by
        rcases Nat.lt_or_ge C k with q | q
        · exact absurd hx (h4 C q)
        · exact q
      refine ⟨k, ?_, h3⟩
      have : k ≠ C := fun e => hne (by rw [h2, e])
      omega
  · rintro ⟨j, hj, e⟩ heq
    rcases fx_cases h x m with ⟨h1, -⟩ | ⟨k, h1, h2, h3, h4⟩
    · rw [h1] at heq; omega
    · have : k = C := by omega
      subst this
      exact h4 j hj e
theorem mc_cons {T : Nat} (hB : am_B K R) (hs : s < 2) (hm : m ≤ 36) (hn : ∀ T : Nat, T < N → nw T = 0 ∨ nw T = 1) (hrg : 0 ≤ F (r + 9) T ∧ F (r + 9) T ≤ 25) : ∀ (as : List Nat) (C q : Nat) (I J : Nat → Nat → Int), mt_T I J kd pl nu nm c → I 101 7 = (q : Int) → I 101 8 = 0 → q + cs_sz as ≤ c → cs_sp kd q as → xs_cons F G r pl nu nm T C q as → C + as.length ≤ m → I 109 s = (C : Int) → mc_ok F G r s C I J → (∀ l : Nat, l < 26 → I 107 (26 * s + l) = kx g nw N (l : Int)) →
    (csf (lx g N) (fx (G (r + 7)) m) pl nu nm C q as = none → ∀ I' J' : Nat → Nat → Int, mm_fr s I I' J J' → I' 101 8 = 0 → I' 101 7 = ((q + cs_sz as : Nat) : Int) → I' 109 s = ((C + as.length : Nat) : Int) → I' 108 s = I 108 s → mc_ok F G r s (C + as.length) I' J' → (∀ l : Nat, I' 107 l = I 107 l) → (∀ a j : Nat, 114 ≤ a → a ≤ 121 → I' a j = I a j) → Q none (n, K, I', J', R)) →
    (∀ k : Int, csf (lx g N) (fx (G (r + 7)) m) pl nu nm C q as = some k → ∀ I' J' : Nat → Nat → Int, mm_bad s k I I' J J' → Q none (n, K, I', J', R)) → am_WP (d + 2) (41, 0, [.inr (.inl 101), .inl (s : Int), .inl (F (r + 9) T), am_o], [], (0, 0), n, K, I, J, R) Q := by
  intro as
  induction as with
  | nil => intro C q I J _ _ _ _ h; exact h.elim
  | cons a as ih =>
    intro C q I J hT h7 h8 hqc hsp hxs hC h109 hmc hL ok bad
    have h12 := hT.2.1
    have ez : cs_sz (a :: as) = (a + 2) + cs_sz as := rfl
    have hC' : C + (as.length + 1) ≤ m := hC
    obtain ⟨s1, s2, s3, s4⟩ := hsp
    obtain ⟨x1, x2, x3, x4, x5, x6⟩ := hxs
    have hw := tr_wrd (hT.1 q (by omega)).2 s1
    have ixs : (0 : Int) ≤ (s : Int) ∧ (s : Int) < ((2 : Nat) : Int) := ⟨by omega, by omega⟩
    have ixc : (0 : Int) ≤ ((36 * s + C : Nat) : Int) ∧ ((36 * s + C : Nat) : Int) < ((72 : Nat) : Int) := ⟨by omega, by omega⟩
    have n59 : kd q ≠ 59 := by rw [s1]; decide
    have n124 : kd q ≠ 124 := by rw [s1]; decide
    have k2 : kd (q + 1 + a) ≠ 2 := by
      rcases s4 with h | h
      · rw [h.2]; decide
      · rw [h.2.1]; decide
    have dup : (∃ j : Nat, j < C ∧ G (r + 7) j = nm q) ↔ ∃ j : Nat, j < C ∧ J 110 (36 * s + j) = J 105 q := by
      constructor
      · rintro ⟨j, hj, e⟩
        exact ⟨j, hj, (tk_w_iff (hmc j hj).2.2.2 hw).mp e⟩
      · rintro ⟨j, hj, e⟩
        exact ⟨j, hj, (tk_w_iff (hmc j hj).2.2.2 hw).mpr e⟩
    have hd := fx_dup (h := G (r + 7)) (m := m) (C := C) (x := nm q) (by omega) x3
    -- behind the name: what is written
    have wr : ∀ I1 : Nat → Nat → Int, mt_T I1 J kd pl nu nm c → I1 101 7 = (q : Int) → I1 109 s = (C : Int) → am_WP (d + 2) (41, 120, [.inr (.inl 101), .inl (s : Int), .inl (F (r + 9) T), .inl ((36 * s + C : Nat) : Int)], [], (0, 0), n, K, am_u (am_u (am_u (am_u I1 111 (36 * s + C) (F (r + 9) T)) 112 (36 * s + C) 0) 109 s ((C + 1 : Nat) : Int)) 101 7 ((q + 1 : Nat) : Int), am_u J 110 (36 * s + C) (J 105 q), R) Q → am_WP (d + 2) (41, 71, [.inr (.inl 101), .inl (s : Int), .inl (F (r + 9) T), .inl ((36 * s + C : Nat) : Int)], [], (0, 0), n, K, I1, J, R) Q := by
      intro I1 hT1 g7 g109 h
      refine s_M_meaningOfCons_71 ⟨(am_kk hB rfl), 110, (am_rf hB rfl), (am_kk hB rfl), 105, (am_rf hB rfl), (am_kk hB rfl), am_nm_k g7 ?_⟩
      rintro _ rfl _ _
      refine ⟨_, by decide, (am_kk hB rfl), ⟨by omega, by omega⟩, fun z4 hz4 _ _ => ⟨_, by decide, (am_kk hB rfl), ixc, (am_kk hB rfl), 111, (am_rf hB rfl), _, by decide, (am_kk hB rfl), ixc, (am_kk hB rfl), 112, (am_rf hB rfl), _, by decide, (am_kk hB rfl), ixc, (am_kk hB rfl), 109, (am_rf hB rfl), _, (am_kk hB rfl), ixs, am_nm_k (show am_u (am_u I1 111 (36 * s + C) (F (r + 9) T)) 112 (36 * s + C) 0 109 s = (C : Int) from by rw [am_u_ne (by decide), am_u_ne (by decide), g109]) ?_⟩⟩
      rintro _ rfl _ _
      refine am_ar_i (by omega) (by omega) ⟨_, by decide, (am_kk hB rfl), ixs, (am_kk hB rfl), am_nm_k (show am_u (am_u (am_u I1 111 (36 * s + C) (F (r + 9) T)) 112 (36 * s + C) 0) 109 s ((C : Int) + 1) 101 7 = (q : Int) from by rw [am_u_ne (by decide), am_u_ne (by decide), am_u_ne (by decide), g7]) ?_⟩
      rintro _ rfl _ _
      refine am_ar_i (by omega) (by omega) ⟨⟨by decide, (am_kk hB rfl)⟩, ?_⟩
      rw [hz4]
      exact h
    have frw : ∀ I1 : Nat → Nat → Int, mm_fr s I I1 J J → mm_fr s I (am_u (am_u (am_u (am_u I1 111 (36 * s + C) (F (r + 9) T)) 112 (36 * s + C) 0) 109 s ((C + 1 : Nat) : Int)) 101 7 ((q + 1 : Nat) : Int)) J (am_u J 110 (36 * s + C) (J 105 q)) := by
      intro I1 h
      refine mm_uJ (mm_ut (mm_ut (mm_ut (mm_ut h ?_) ?_) ?_) ?_) ⟨by omega, by omega⟩
      · exact mm_tb ⟨by decide, by decide⟩ (by show 36 * s ≤ _; omega) (by show _ < 36 * s + 36; omega)
      · exact mm_tb ⟨by decide, by decide⟩ (by show 36 * s ≤ _; omega) (by show _ < 36 * s + 36; omega)
      · exact mm_tb ⟨by decide, by decide⟩ (by show 1 * s ≤ s; omega) (by show s < 1 * s + 1; omega)
      · exact mm_101 (Or.inl rfl)
    refine s_M_meaningOfCons_0 ⟨(am_kk hB rfl), am_nm_k h8 ?_⟩
    rintro _ rfl _ _
    refine ⟨fun h => absurd rfl h, fun _ => ⟨(am_kk hB rfl), m_isSign (by unfold tb_sg; decide) hB hT h7 (by omega) (fun h => absurd h n59) (fun _ => ⟨_, rfl, s_M_meaningOfCons_13 ⟨fun h => absurd rfl h, fun _ => ⟨(am_kk hB rfl), m_isSign (by unfold tb_sg; decide) hB hT h7 (by omega) (fun h => absurd h n124) (fun _ => ⟨_, rfl, s_M_meaningOfCons_22 ⟨fun _ => am_ar_i (by omega) (by omega) ⟨(am_kk hB rfl), 109, (am_rf hB rfl), _, (am_kk hB rfl), ixs, am_nm_k h109 ?_⟩, fun h => absurd rfl h⟩⟩)⟩⟩⟩)⟩⟩
    rintro _ rfl _ _
    refine am_ar_i (by omega) (by omega) ⟨(am_kk hB rfl), 105, (am_rf hB rfl), (am_kk hB rfl), am_nm_k h7 ?_⟩
    rw [show (36 : Int) * (s : Int) + (C : Int) = ((36 * s + C : Nat) : Int) by omega]
    rintro _ rfl _ _
    refine ⟨_, by decide, (am_kk hB rfl), ⟨by omega, by omega⟩, fun z8 hz8 _ _ => ⟨(am_kk hB rfl), m_findCon (m := C) hB hs h109 (by omega) ⟨_, rfl, ?_⟩⟩⟩
    have hz8 : z8 = J 105 q := hz8
    subst hz8
    have ec : csf (lx g N) (fx (G (r + 7)) m) pl nu nm C q (a :: as) = (if fx (G (r + 7)) m (nm q) ≠ (C : Int) then some (pl q) else oe (arf (lx g N) pl nu (q + 1) a) (csf (lx g N) (fx (G (r + 7)) m) pl nu nm (C + 1) (q + (a + 2)) as)) := rfl
    rcases fx_cases (fun c => J 110 (36 * s + c)) (J 105 q) C with ⟨f1, f2⟩ | ⟨j, j1, j2, j3, j4⟩
    · rw [f1]
      have nd : ¬ (fx (G (r + 7)) m (nm q) ≠ (C : Int)) := by
        intro q'
        obtain ⟨j, hj, e⟩ := dup.mp (hd.mp q')
        exact f2 j hj e
      rw [if_neg nd] at ec
      refine s_M_meaningOfCons_64 ⟨fun _ => wr I hT h7 h109 ?_, fun h => absurd h (by decide)⟩
      have fr1 := frw I mm_refl
      have T1 := mt_mm hT fr1
      have a8 : am_u (am_u (am_u (am_u I 111 (36 * s + C) (F (r + 9) T)) 112 (36 * s + C) 0) 109 s ((C + 1 : Nat) : Int)) 101 7 ((q + 1 : Nat) : Int) 101 8 = 0 := by rw [am_u_kn (by decide), am_u_ne (by decide), am_u_ne (by decide), am_u_ne (by decide), h8]
      have a7 : am_u (am_u (am_u (am_u I 111 (36 * s + C) (F (r + 9) T)) 112 (36 * s + C) 0) 109 s ((C + 1 : Nat) : Int)) 101 7 ((q + 1 : Nat) : Int) 101 7 = ((q + 1 : Nat) : Int) := am_u_kk
      have a112 : am_u (am_u (am_u (am_u I 111 (36 * s + C) (F (r + 9) T)) 112 (36 * s + C) 0) 109 s ((C + 1 : Nat) : Int)) 101 7 ((q + 1 : Nat) : Int) 112 (36 * s + C) = ((0 : Nat) : Int) := by rw [am_u_ne (by decide), am_u_ne (by decide)]; exact am_u_kk
      have a111 : am_u (am_u (am_u (am_u I 111 (36 * s + C) (F (r + 9) T)) 112 (36 * s + C) 0) 109 s ((C + 1 : Nat) : Int)) 101 7 ((q + 1 : Nat) : Int) 111 (36 * s + C) = F (r + 9) T := by rw [am_u_ne (by decide), am_u_ne (by decide), am_u_ne (by decide)]; exact am_u_kk
      have a109 : am_u (am_u (am_u (am_u I 111 (36 * s + C) (F (r + 9) T)) 112 (36 * s + C) 0) 109 s ((C + 1 : Nat) : Int)) 101 7 ((q + 1 : Nat) : Int) 109 s = ((C + 1 : Nat) : Int) := by rw [am_u_ne (by decide)]; exact am_u_kk
      have aot : ∀ x j : Nat, ¬ (x = 111 ∧ j = 36 * s + C) → ¬ (x = 112 ∧ j = 36 * s + C) → ¬ (x = 109 ∧ j = s) → ¬ (x = 101 ∧ j = 7) → am_u (am_u (am_u (am_u I 111 (36 * s + C) (F (r + 9) T)) 112 (36 * s + C) 0) 109 s ((C + 1 : Nat) : Int)) 101 7 ((q + 1 : Nat) : Int) x j = I x j := by
        intro x j b1 b2 b3 b4
        rw [am_u_off b4, am_u_off b3, am_u_off b2, am_u_off b1]
      generalize am_u (am_u (am_u (am_u I 111 (36 * s + C) (F (r + 9) T)) 112 (36 * s + C) 0) 109 s ((C + 1 : Nat) : Int)) 101 7 ((q + 1 : Nat) : Int) = I1 at fr1 T1 a8 a7 a112 a111 a109 aot ⊢
      have aJ : ∀ j : Nat, j ≠ 36 * s + C → am_u J 110 (36 * s + C) (J 105 q) 110 j = J 110 j := fun j h => am_u_kn h
      have aJ2 : am_u J 110 (36 * s + C) (J 105 q) 110 (36 * s + C) = J 105 q := am_u_kk
      generalize am_u J 110 (36 * s + C) (J 105 q) = J1 at fr1 T1 aJ aJ2 ⊢
      refine mc_args (g := g) (nw := nw) (N := N) (q := q) (a := a) (C := C) hB hs (by omega) T1 s2 s3 k2 (by omega) (fun l hl => (aot _ _ (by omega) (by omega) (by omega) (by omega)).trans (hL l hl)) hn (fun ea I2 f2 b1 b2 b3 => ?_) (fun k ea I2 hb => bad k (by rw [ec, ea]; rfl) I2 J1 (mm_bt fr1 hb)) a 0 I1 (by omega) (fun _ _ _ _ _ => rfl) a8 a7 a112 (fun y hy => absurd hy (Nat.not_lt_zero y)) rfl
      rw [ea] at ec
      have ec : csf (lx g N) (fx (G (r + 7)) m) pl nu nm C q (a :: as) = csf (lx g N) (fx (G (r + 7)) m) pl nu nm (C + 1) (q + (a + 2)) as := ec
      have T2 : mt_T I2 J1 kd pl nu nm c := ⟨fun k hk => by rw [f2 104 k (by omega) (by omega) (by omega), f2 103 k (by omega) (by omega) (by omega)]; exact T1.1 k hk, T1.2⟩
      have fr2 : mm_fr s I I2 J J1 := by
        refine mm_trans fr1 ⟨fun x j h => f2 x j (fun e => h ?_) (fun e => h ?_) (fun e => h ?_), fun _ _ _ => rfl⟩
        · rw [e.1, e.2]; exact mm_101 (Or.inl rfl)
        · rw [e.1, e.2]; exact mm_tb ⟨by decide, by decide⟩ (by show 36 * s ≤ _; omega) (by show _ < 36 * s + 36; omega)
        · rw [e.1]; exact mm_tb ⟨by decide, by decide⟩ (by show 108 * s ≤ j; omega) (by show j < 108 * s + 108; omega)
      have m2 : mc_ok F G r s (C + 1) I2 J1 := by
        intro c' hc'
        by_cases e : c' = C
        · subst e
          refine ⟨?_, b2.trans x2.symm, fun z z3 hz => ?_, ?_⟩
          · rw [f2 _ _ (by omega) (by omega) (by omega), a111, x1, Int.toNat_natCast]
          · rw [x2] at hz
            rw [b3 z (by omega), (x5 z (by omega)).1]
          · rw [aJ2, x3]; exact hw
        · obtain ⟨o1, o2, o3, o4⟩ := hmc c' (by omega)
          refine ⟨?_, ?_, fun z z3 hz => ?_, ?_⟩
          · rw [f2 _ _ (by omega) (by omega) (by omega), aot _ _ (by omega) (by omega) (by omega) (by omega)]; exact o1
          · rw [f2 _ _ (by omega) (by omega) (by omega), aot _ _ (by omega) (by omega) (by omega) (by omega)]; exact o2
          · rw [f2 _ _ (by omega) (by omega) (by omega), aot _ _ (by omega) (by omega) (by omega) (by omega)]; exact o3 z z3 hz
          · rw [aJ _ (by omega)]; exact o4
      have c8 : I2 101 8 = 0 := (f2 _ _ (by omega) (by omega) (by omega)).trans a8
      have c109 : I2 109 s = ((C + 1 : Nat) : Int) := (f2 _ _ (by omega) (by omega) (by omega)).trans a109
      have c107 : ∀ l : Nat, I2 107 l = I 107 l := fun l => (f2 _ _ (by omega) (by omega) (by omega)).trans (aot _ _ (by omega) (by omega) (by omega) (by omega))
      have c114 : ∀ x j : Nat, 114 ≤ x → x ≤ 121 → I2 x j = I x j := fun x j g1 g2 => (f2 _ _ (by omega) (by omega) (by omega)).trans (aot _ _ (by omega) (by omega) (by omega) (by omega))
      have c108 : I2 108 s = I 108 s := (f2 _ _ (by omega) (by omega) (by omega)).trans (aot _ _ (by omega) (by omega) (by omega) (by omega))
      refine s_M_meaningOfCons_0 ⟨(am_kk hB rfl), am_nm_k c8 ?_⟩
      rintro _ rfl _ _
      refine ⟨fun h => absurd rfl h, fun _ => ⟨(am_kk hB rfl), m_isSign (by unfold tb_sg; decide) hB T2 b1 (by omega) (fun h59 => ⟨_, rfl, s_M_meaningOfCons_13 ⟨fun _ => s_M_meaningOfCons_186 ⟨(am_kk hB rfl), am_nm_k b1 ?_⟩, fun h => absurd h (by decide)⟩⟩) (fun h59 => ⟨_, rfl, s_M_meaningOfCons_13 ⟨fun h => absurd rfl h, fun _ => ⟨(am_kk hB rfl), m_isSign (by unfold tb_sg; decide) hB T2 b1 (by omega) (fun h124 => ⟨_, rfl, s_M_meaningOfCons_22 ⟨fun h => absurd h (by decide), fun _ => ⟨(am_kk hB rfl), am_nm_k b1 ?_⟩⟩⟩) (fun h124 => ?_)⟩⟩⟩)⟩⟩
      · rintro _ rfl _ _
        refine ⟨(am_kk hB rfl), am_nm_k c8 ?_⟩
        rintro _ rfl _ _
        refine ⟨fun _ => s_M_meaningOfCons_203 (am_ar_i (by omega) (by omega) ⟨⟨by decide, (am_kk hB rfl)⟩, ?_⟩), fun h => absurd rfl h⟩
        have eas : as = [] := by
          rcases s4 with h | h
          · exact h.1
          · exact absurd (h59.symm.trans h.2.1) (by decide)
        subst eas
        refine ok ec _ J1 (mm_ut fr2 (mm_101 (Or.inl rfl))) ((am_u_kn (by decide)).trans c8) ?_ ((am_u_ne (by decide)).trans c109) ((am_u_ne (by decide)).trans c108) ?_ (fun l => (am_u_ne (by decide)).trans (c107 l)) (fun x j g1 g2 => (am_u_ne (by omega)).trans (c114 x j g1 g2))
        · rw [am_u_kk, ez]
          show ((q + 1 + a : Nat) : Int) + 1 = ((q + (a + 2 + 0) : Nat) : Int)
          omega
        · intro c' hc'
          obtain ⟨o1, o2, o3, o4⟩ := m2 c' hc'
          exact ⟨(am_u_ne (by decide)).trans o1, (am_u_ne (by decide)).trans o2, fun z z3 hz => (am_u_ne (by decide)).trans (o3 z z3 hz), o4⟩
      · rintro _ rfl _ _
        obtain ⟨-, k1, rest⟩ : as ≠ [] ∧ kd (q + 1 + a) = 124 ∧ cs_sp kd (q + (a + 2)) as := by
          rcases s4 with h | h
          · exact absurd (h124.symm.trans h.2) (by decide)
          · exact h
        refine am_ar_i (by omega) (by omega) ⟨⟨by decide, (am_kk hB rfl)⟩, ?_⟩
        have fr3 : mm_fr s I (am_u I2 101 7 (((q + 1 + a : Nat) : Int) + 1)) J J1 := mm_ut fr2 (mm_101 (Or.inl rfl))
        refine ih (C + 1) (q + (a + 2)) _ J1 (mt_mm hT fr3) (by rw [am_u_kk]; omega) ((am_u_kn (by decide)).trans c8) (by omega) rest x6 (by omega) ((am_u_ne (by decide)).trans c109) ?_ (fun l hl => (am_u_ne (by decide)).trans ((c107 _).trans (hL l hl))) (fun e9 I' J' p1 p2 p3 p4 p5 p6 p7 p8 => ?_) (fun k e9 I' J' hb => bad k (ec.trans e9) I' J' (mm_bt fr3 hb))
        · intro c' hc'
          obtain ⟨o1, o2, o3, o4⟩ := m2 c' hc'
          exact ⟨(am_u_ne (by decide)).trans o1, (am_u_ne (by decide)).trans o2, fun z z3 hz => (am_u_ne (by decide)).trans (o3 z z3 hz), o4⟩
        · have el : C + (a :: as).length = C + 1 + as.length := by show C + (as.length + 1) = _; omega
          refine ok (ec.trans e9) I' J' (mm_trans fr3 p1) p2 (by rw [p3, ez]; omega) (by rw [p4, el]) (p5.trans ((am_u_ne (by decide)).trans c108)) (by rw [el]; exact p6) (fun l => (p7 l).trans ((am_u_ne (by decide)).trans (c107 l))) (fun x j g1 g2 => (p8 x j g1 g2).trans ((am_u_ne (by omega)).trans (c114 x j g1 g2)))
      · exfalso
        rcases s4 with h | h
        · exact h59 h.2
        · exact h124 h.2.1
    · rw [j2]
      rw [if_pos (hd.mpr (dup.mpr ⟨j, j1, j3⟩))] at ec
      refine s_M_meaningOfCons_64 ⟨fun h => absurd h (by omega), fun _ => ⟨(am_kk hB rfl), m_mispl hB hT h7 (by omega) h8 ⟨rfl, ?_⟩⟩⟩
      have fb : mm_fr s I (am_u (am_u I 101 8 1) 101 9 (pl q)) J J := mm_ut (mm_ut mm_refl (mm_101 (by omega))) (mm_101 (by omega))
      refine wr _ (mt_mm hT fb) (by rw [am_u_kn (by decide), am_u_kn (by decide)]; exact h7) (by rw [am_u_ne (by decide), am_u_ne (by decide)]; exact h109) ?_
      have fr1 := frw _ fb
      have b8 : am_u (am_u (am_u (am_u (am_u (am_u I 101 8 1) 101 9 (pl q)) 111 (36 * s + C) (F (r + 9) T)) 112 (36 * s + C) 0) 109 s ((C + 1 : Nat) : Int)) 101 7 ((q + 1 : Nat) : Int) 101 8 = 1 := by
        rw [am_u_kn (by decide), am_u_ne (by decide), am_u_ne (by decide), am_u_ne (by decide), am_u_kn (by decide)]; exact am_u_kk
      have b9 : am_u (am_u (am_u (am_u (am_u (am_u I 101 8 1) 101 9 (pl q)) 111 (36 * s + C) (F (r + 9) T)) 112 (36 * s + C) 0) 109 s ((C + 1 : Nat) : Int)) 101 7 ((q + 1 : Nat) : Int) 101 9 = pl q := by
        rw [am_u_kn (by decide), am_u_ne (by decide), am_u_ne (by decide), am_u_ne (by decide)]; exact am_u_kk
      have b7 : am_u (am_u (am_u (am_u (am_u (am_u I 101 8 1) 101 9 (pl q)) 111 (36 * s + C) (F (r + 9) T)) 112 (36 * s + C) 0) 109 s ((C + 1 : Nat) : Int)) 101 7 ((q + 1 : Nat) : Int) 101 7 = ((q + 1 : Nat) : Int) := am_u_kk
      generalize am_u (am_u (am_u (am_u (am_u (am_u I 101 8 1) 101 9 (pl q)) 111 (36 * s + C) (F (r + 9) T)) 112 (36 * s + C) 0) 109 s ((C + 1 : Nat) : Int)) 101 7 ((q + 1 : Nat) : Int) = I1 at fr1 b8 b9 b7 ⊢
      refine s_M_meaningOfCons_120 ⟨(am_kk hB rfl), am_nm_k b8 ?_⟩
      rintro _ rfl _ _
      refine ⟨fun _ => am_WP.forget (mc_dead (v := .inl 0) hB b8 ⟨by omega, by omega⟩ ?_) _ (am_le_eq (am_le_eq (am_le_eq (am_le_o am_le_nil)))), fun h => absurd h (by decide)⟩
      rw [am_u_self]
      exact bad (pl q) ec I1 _ ⟨fr1, b8, b9, by omega, by omega⟩
end MY
