/-! MEANING: the reference's pats, by depth -/
section MPS
variable {d n0 : Nat} {K : Nat → am_K} {J : Nat → Nat → Int} {R : Nat → Nat → Option Nat} {Q : am_Q} {kd pl nu nm : Nat → Int} {c s ρ : Nat} {N m wd : Nat} {F G : Nat → Nat → Int} {aT W : Nat → Int} {r : Nat}
theorem lz_v {lz : Bool} : xt_v lz = 0 ∨ xt_v lz = 1 := by cases lz <;> simp [xt_v]
theorem mp_step (n : Nat) (hB : am_B K R) (hE : rE F aT W r s N m wd) (hρ : ρ < 12) (hP : mp_P d n0 K J R Q kd pl nu nm c s ρ N m wd F G aT W r n) (hL : ml_P d n0 K J R Q kd pl nu nm c s ρ N m wd F G aT W r n) : mp_P d n0 K J R Q kd pl nu nm c s ρ N m wd F G aT W r (n + 1) := by
  intro t i j f cnt col many base p V l w lz0 lz A I hT h7 hic h8 ht hS hcnt hm4 hcol hfn hl hw hp hpb hlz hA hA60 hsp ok bad
  have hs := hE.1
  have h12 := hT.2.1
  have hf6 : f ≤ 5 := by omega
  have p32 : p < 8192 := by
    have : 4 ^ (f + 1) ≤ 4 ^ 6 := Nat.pow_le_pow_right (by decide) (by omega)
    omega
  have A60 : A.length < 60 := by
    have : tm_sz (n + 1) t = 1 + ls_sz (tm_sz n) (tm_k t) := rfl
    omega
  -- a fault is told here
  have die : ∀ (k : Int) (I1 : Nat → Nat → Int) (x7 : Int), tf (fx (G (r + 7)) m) (F (r + 5)) (F (r + 6)) aT (n + 1) w t = some k → rf_fr (12 * s + ρ) f I I1 → I1 101 8 = 1 → I1 101 9 = k → 0 ≤ x7 → x7 ≤ 1300 → I1 101 7 = x7 → rw_C d s ρ Q col (some (.inl 0)) (n0, K, am_u I1 101 36 (xt_v lz0), J, R) := by
    intro k I1 x7 htf f1 g8 g9 a0 a1 g7
    refine rw_ret (Int.add_zero _) ⟨by decide, by decide⟩ (by omega) (bad k htf _ col ⟨rf_ut f1 (rf_101 (by omega)), (am_u_kn (by decide)).trans g8, (am_u_kn (by decide)).trans g9, ?_, ?_⟩)
    · rw [am_u_kn (by decide), g7]; exact a0
    · rw [am_u_kn (by decide), g7]; exact a1
  have fmis : ∀ {I1 : Nat → Nat → Int} {x : Int}, rf_fr (12 * s + ρ) f I I1 → rf_fr (12 * s + ρ) f I (am_u (am_u I1 101 8 1) 101 9 x) := fun f1 => rf_ut (rf_ut f1 (rf_101 (by omega))) (rf_101 (by omega))
  rcases hsp with ⟨k5, et, ej⟩ | ⟨k3, et, ej⟩ | ⟨k40, k3, ks, q, hne, hks, k41, et, ej⟩ | h4 | ⟨-, k126, t', hsp', et⟩ | ⟨-, k33, t', hsp', et⟩ | ⟨-, k4, k64, t', hsp', et⟩ | ⟨-, k4, n64, et, ej⟩ | ⟨-, k95, et, ej⟩
  · -- a number
    subst et
    subst ej
    have hlt : i < c := mt_lt hT hic (by rw [k5]; decide) (by rw [k5]; decide)
    obtain ⟨dw, d0, d9⟩ := tr_dig (hT.1 i hic).2 k5
    have hs5 := (tr_sort (hT.1 i hic).2).2.2.2.1
    refine mp_core hB hT h7 hlt (by rw [k5]; decide) (by rw [k5]; decide) (fun h => absurd (k5.symm.trans h) (by decide)) (s_M_meaningOfPat_8 ⟨fun _ => ⟨(am_kk hB rfl), 103, (am_rf hB rfl), (am_kk hB rfl), am_nm_k h7 ?_⟩, fun h => absurd rfl h⟩)
    rintro _ rfl _ _
    refine ⟨_, (am_kk hB rfl), ⟨by omega, by omega⟩, fun z3 hz3 _ _ => ⟨fun h => absurd (hz3.trans (hs5.mpr k5)) h, fun _ => ⟨(am_kk hB rfl), am_nm_k hl ?_⟩⟩⟩
    rintro _ rfl _ _
    have etf : tf (fx (G (r + 7)) m) (F (r + 5)) (F (r + 6)) aT (n + 1) w (tm_m (4, pl i, pl i, pl i, nm i, nu i) []) = if w = 6 then none else some (pl i) := tf_4
    refine ⟨fun l8 => ⟨(am_kk hB rfl), am_nm_k hlz.1 ?_⟩, fun l8 => ⟨(am_kk hB rfl), m_mispl hB hT h7 hic h8 ⟨rfl, s_M_meaningOfPat_188 (s_M_meaningOfPat_221 ⟨(am_kk hB rfl), am_nm_k (show am_u (am_u I 101 8 1) 101 9 (pl i) 101 8 = 1 from (am_u_kn (by decide)).trans am_u_kk) ?_⟩)⟩⟩⟩
    · rw [if_pos ((wt_8 hE hw).mp l8)] at etf
      rintro _ rfl _ _
      have done : ∀ I2 : Nat → Nat → Int, (∀ a j : Nat, ¬ (a = 119 ∧ j = 12 * s + ρ) → ¬ ((a = 120 ∨ a = 121) ∧ j = 150 * (12 * s + ρ) + A.length) → I2 a j = I a j) → acS I2 (12 * s + ρ) (A ++ (if lz = true then [] else al (fx (G (r + 7)) m) (nwc F r) (n + 1) p (tm_m (4, pl i, pl i, pl i, nm i, nu i) []))) → am_WP (d + 4) (46, 221, [.inr (.inl 101), .inl (s : Int), .inl (ρ : Int), .inl 0, .inl (xt_v lz0), .inl 0, am_o], [], (0, 0), n0, K, I2, J, R) (rw_C d s ρ Q col) := by
        intro I2 f2 a2
        have fr2 : rf_fr (12 * s + ρ) f I I2 := fun a j g => f2 a j (fun q => g (by unfold rf_ch; omega)) (fun q => g (by unfold rf_ch; omega))
        exact (mp_done (I1 := I) hB hs ((f2 _ _ (by omega) (by omega)).trans h7) (by omega) ((f2 _ _ (by omega) (by omega)).trans h8) (rS_fr hS (f2 _ _ (by omega) (by omega)) (fun a j a1 a2 a3 => f2 a j (by omega) (by omega))) (by omega) (by omega) hcol (lz := lz) ⟨(f2 _ _ (by omega) (by omega)).trans hlz.1, by rw [f2 _ _ (by omega) (by omega)]; exact hlz.2.1, by rw [f2 _ _ (by omega) (by omega)]; exact hlz.2.2⟩ a2 fr2 (fun I' col' g1 g2 g3 g4 g5 g6 g7 g8 g9 => ok etf I' col' g1 g2 hlt g3 g4 g5 g6 g7 (fun _ => g8.trans (f2 _ _ (by omega) (by omega))) g9)).1
      refine ⟨fun lzt => done I (fun _ _ _ _ => rfl) ?_, fun lzf => ⟨(am_kk hB rfl), am_nm_k hp ?_⟩⟩
      · have e : lz = true := by
          cases lz
          · exact absurd rfl lzt
          · rfl
        rw [if_pos e, List.append_nil]; exact hA
      · have e : lz = false := by
          cases lz
          · rfl
          · exact absurd lzf (by decide)
        rintro _ rfl _ _
        refine ⟨(am_kk hB rfl), 105, (am_rf hB rfl), (am_kk hB rfl), am_nm_k h7 ?_⟩
        rintro _ rfl _ _
        refine ⟨_, by decide, (am_kk hB rfl), ⟨by omega, by omega⟩, am_nl_k dw ?_⟩
        rintro _ rfl _ _
        refine am_nm_k (am_l2i_k ⟨by omega, by omega⟩) ?_
        rintro _ rfl _ _
        refine am_ar_i (by omega) (by omega) ⟨(am_kk hB rfl), m_act (p := p) (w := 100 + nu i) hB hs hρ hA.1 (by omega) hA.2 (fun I2 f2 a1 a2 => ⟨rfl, done I2 f2 ?_⟩)⟩
        rw [e, al_4]
        exact ⟨by rw [a1]; simp, a2⟩
    · rw [if_neg (fun h => l8 ((wt_8 hE hw).mpr h))] at etf
      rintro _ rfl _ _
      refine ⟨fun h => absurd h (by decide), fun _ => s_M_meaningOfPat_236 ⟨(am_kk hB rfl), am_nm_k (show am_u (am_u I 101 8 1) 101 9 (pl i) 101 7 = (i : Int) from by rw [am_u_kn (by decide), am_u_kn (by decide)]; exact h7) ?_⟩⟩
      rintro _ rfl _ _
      refine ⟨(am_kk hB rfl), am_nm_k (show am_u (am_u I 101 8 1) 101 9 (pl i) 101 8 = 1 from (am_u_kn (by decide)).trans am_u_kk) ?_⟩
      rintro _ rfl _ _
      refine ⟨fun h => absurd h (by decide), fun _ => s_M_meaningOfPat_255 (am_ar_i (by omega) (by omega) ⟨⟨by decide, (am_kk hB rfl)⟩, ⟨by decide, (am_kk hB rfl)⟩, lz_v, die (pl i) _ (i : Int) etf (rf_ut (fmis rf_refl) (rf_101 (by omega))) ?_ ?_ (by omega) (by omega) ?_⟩)⟩
      · rw [am_u_kn (by decide), am_u_kn (by decide)]; exact am_u_kk
      · rw [am_u_kn (by decide)]; exact am_u_kk
      · rw [am_u_kk]; omega
  · -- a constructor alone
    subst et
    subst ej
    have hlt : i < c := mt_lt hT hic (by rw [k3]; decide) (by rw [k3]; decide)
    have hs5 := (tr_sort (hT.1 i hic).2).2.2.2.1
    have etf : tf (fx (G (r + 7)) m) (F (r + 5)) (F (r + 6)) aT (n + 1) w (tm_m (5, pl i, pl i, pl i, nm i, nu i) []) = _ := tf_5
    refine mp_core hB hT h7 hlt (by rw [k3]; decide) (by rw [k3]; decide) (fun h => absurd (k3.symm.trans h) (by decide)) (s_M_meaningOfPat_8 ⟨fun _ => ⟨(am_kk hB rfl), 103, (am_rf hB rfl), (am_kk hB rfl), am_nm_k h7 ?_⟩, fun h => absurd rfl h⟩)
    rintro _ rfl _ _
    refine ⟨_, (am_kk hB rfl), ⟨by omega, by omega⟩, fun z3 hz3 _ _ => ⟨fun _ => ⟨(am_kk hB rfl), m_isCon hB hT h7 hic (fun _ => ⟨_, rfl, s_M_meaningOfPat_266 ⟨fun h => absurd h (by decide), fun _ => ⟨(am_kk hB rfl), m_conHere hB hE ht hT h7 hic h8 k3 hl hw (fun c' hc' x1 x2 => ⟨_, rfl, s_M_meaningOfPat_274 ⟨(am_kk hB rfl), am_nm_k h8 ?_⟩⟩) (fun hx z => ⟨z, rfl, s_M_meaningOfPat_274 ⟨(am_kk hB rfl), am_nm_k (show am_u (am_u I 101 8 1) 101 9 (pl i) 101 8 = 1 from (am_u_kn (by decide)).trans am_u_kk) ?_⟩⟩)⟩⟩⟩) (fun h => absurd k3 h)⟩, fun h => absurd (k3.symm.trans (hs5.mp (hz3.symm.trans h))) (by decide)⟩⟩
    · have hcx : ¬ (fx (G (r + 7)) m (nm i) = -1 ∨ F (r + 5) (fx (G (r + 7)) m (nm i)).toNat ≠ w) := by
        rw [x1, Int.toNat_natCast]
        rintro (q | q)
        · omega
        · exact q x2
      rw [if_neg hcx, x1, Int.toNat_natCast] at etf
      have m2 := (ht.2.2.2.2.2 c' hc').2.1
      have hmm := hE.2.2.1
      have ha := hE.2.2.2.2.2.1 c' hc'
      rintro _ rfl _ _
      refine ⟨fun h => absurd rfl h, fun _ => ⟨(am_kk hB rfl), 112, (am_rf hB rfl), am_ar_i (by omega) (by omega) (am_ar_i (by omega) (by omega) ?_)⟩⟩
      rw [show (36 : Int) * (s : Int) + (c' : Int) = ((36 * s + c' : Nat) : Int) by omega]
      refine ⟨_, (am_kk hB rfl), ⟨by omega, by omega⟩, am_nm_k m2 ?_⟩
      rintro _ rfl _ _
      refine ⟨fun h0 => s_M_meaningOfPat_302 ⟨(am_kk hB rfl), am_nm_k h8 ?_⟩, fun h0 => ⟨(am_kk hB rfl), m_mispl hB hT h7 hic h8 ⟨rfl, s_M_meaningOfPat_302 ⟨(am_kk hB rfl), am_nm_k (show am_u (am_u I 101 8 1) 101 9 (pl i) 101 8 = 1 from (am_u_kn (by decide)).trans am_u_kk) ?_⟩⟩⟩⟩
      · rw [if_pos (show F (r + 6) c' = 0 by omega)] at etf
        rintro _ rfl _ _
        refine ⟨fun h => absurd rfl h, fun _ => ⟨(am_kk hB rfl), m_askFor (p := p) (A := A) hB hE hρ ht hc' x2 hl hw hp hlz.1 hA (by omega) (fun I2 f2 a2 => ⟨rfl, ?_⟩)⟩⟩
        have fr2 : rf_fr (12 * s + ρ) f I I2 := fun a j g => f2 a j (fun q => g (by unfold rf_ch; omega)) (fun q => g (by unfold rf_ch; omega))
        have a3 : acS I2 (12 * s + ρ) (A ++ (if lz = true then [] else al (fx (G (r + 7)) m) (nwc F r) (n + 1) p (tm_m (5, pl i, pl i, pl i, nm i, nu i) []))) := by
          rw [al_56 (Or.inl rfl), x1]
          cases lz with
          | true => exact a2
          | false =>
            cases hb : nwc F r (c' : Int) with
            | true => rw [hb] at a2; exact a2
            | false => rw [hb] at a2; exact a2
        exact (mp_done (I1 := I) hB hs ((f2 _ _ (by omega) (by omega)).trans h7) (by omega) ((f2 _ _ (by omega) (by omega)).trans h8) (rS_fr hS (f2 _ _ (by omega) (by omega)) (fun a j a1 a2 a3 => f2 a j (by omega) (by omega))) (by omega) (by omega) hcol (lz := lz) ⟨(f2 _ _ (by omega) (by omega)).trans hlz.1, by rw [f2 _ _ (by omega) (by omega)]; exact hlz.2.1, by rw [f2 _ _ (by omega) (by omega)]; exact hlz.2.2⟩ a3 fr2 (fun I' col' g1 g2 g3 g4 g5 g6 g7 g8 g9 => ok etf I' col' g1 g2 hlt g3 g4 g5 g6 g7 (fun _ => g8.trans (f2 _ _ (by omega) (by omega))) g9)).2.1 _
      · rw [if_neg (show ¬ F (r + 6) c' = 0 by omega)] at etf
        rintro _ rfl _ _
        refine ⟨fun _ => ⟨⟨by decide, (am_kk hB rfl)⟩, lz_v, die (pl i) _ (i : Int) etf (fmis rf_refl) ?_ am_u_kk (by omega) (by omega) ?_⟩, fun h => absurd h (by decide)⟩
        · exact (am_u_kn (by decide)).trans am_u_kk
        · rw [am_u_kn (by decide), am_u_kn (by decide)]; exact h7
    · rw [if_pos hx] at etf
      rintro _ rfl _ _
      refine ⟨fun _ => s_M_meaningOfPat_302 ⟨(am_kk hB rfl), am_nm_k (show am_u (am_u I 101 8 1) 101 9 (pl i) 101 8 = 1 from (am_u_kn (by decide)).trans am_u_kk) ?_⟩, fun h => absurd h (by decide)⟩
      rintro _ rfl _ _
      refine ⟨fun _ => ⟨⟨by decide, (am_kk hB rfl)⟩, lz_v, die (pl i) _ (i : Int) etf (fmis rf_refl) ?_ am_u_kk (by omega) (by omega) ?_⟩, fun h => absurd h (by decide)⟩
      · exact (am_u_kn (by decide)).trans am_u_kk
      · rw [am_u_kn (by decide), am_u_kn (by decide)]; exact h7
  · -- a constructor with values
    subst et
    subst ej
    have hlt : i < c := mt_lt hT hic (by rw [k40]; decide) (by rw [k40]; decide)
    have hlt1 : i + 1 < c := mt_lt hT hlt (by rw [k3]; decide) (by rw [k3]; decide)
    have hs5 := (tr_sort (hT.1 i hic).2).2.2.2.1
    have esz : tm_sz (n + 1) (tm_m (6, pl i, pl (i + 1), pl q, nm (i + 1), nu i) ks) = 1 + ls_sz (tm_sz n) ks := rfl
    have etf : tf (fx (G (r + 7)) m) (F (r + 5)) (F (r + 6)) aT (n + 1) w (tm_m (6, pl i, pl (i + 1), pl q, nm (i + 1), nu i) ks) = _ := tf_6
    refine mp_core hB hT h7 hlt (by rw [k40]; decide) (by rw [k40]; decide) (fun h => absurd (k40.symm.trans h) (by decide)) (s_M_meaningOfPat_8 ⟨fun _ => ⟨(am_kk hB rfl), 103, (am_rf hB rfl), (am_kk hB rfl), am_nm_k h7 ?_⟩, fun h => absurd rfl h⟩)
    rintro _ rfl _ _
    refine ⟨_, (am_kk hB rfl), ⟨by omega, by omega⟩, fun z3 hz3 _ _ => ⟨fun _ => ⟨(am_kk hB rfl), m_isCon hB hT h7 hic (fun h => absurd (k40.symm.trans h) (by decide)) (fun _ => ⟨_, rfl, s_M_meaningOfPat_266 ⟨fun _ => ⟨(am_kk hB rfl), m_isSign (by unfold tb_sg; decide) hB hT h7 hic (fun _ => ⟨_, rfl, s_M_meaningOfPat_342 ⟨fun h => absurd h (by decide), fun _ => ⟨(am_kk hB rfl), am_nm_k h7 ?_⟩⟩⟩) (fun h => absurd k40 h)⟩, fun h => absurd rfl h⟩⟩)⟩, fun h => absurd (k40.symm.trans (hs5.mp (hz3.symm.trans h))) (by decide)⟩⟩
    rintro _ rfl _ _
    refine am_ar_i (by omega) (by omega) ⟨⟨by decide, (am_kk hB rfl)⟩, (am_kk hB rfl), ?_⟩
    have f1 : ∀ a j : Nat, ¬ (a = 101 ∧ j = 7) → am_u I 101 7 ((i : Int) + 1) a j = I a j := fun a j h => am_u_off h
    have fr1 : rf_fr (12 * s + ρ) f I (am_u I 101 7 ((i : Int) + 1)) := rf_ut rf_refl (rf_101 (by omega))
    have i7 : am_u I 101 7 ((i : Int) + 1) 101 7 = ((i + 1 : Nat) : Int) := am_u_kk
    generalize am_u I 101 7 ((i : Int) + 1) = I1 at f1 fr1 i7 ⊢
    have T1 : mt_T I1 J kd pl nu nm c := mt_mm hT (rf_mm (J := J) fr1 hρ)
    have i8 : I1 101 8 = 0 := (f1 _ _ (by omega)).trans h8
    refine m_conHere hB hE (rf_tab ht fr1) T1 i7 hlt i8 k3 ((f1 _ _ (by omega)).trans hl) hw (fun c' hc' x1 x2 => ⟨_, rfl, s_M_meaningOfPat_360 ⟨(am_kk hB rfl), am_nm_k i8 ?_⟩⟩) (fun hx z => ⟨z, rfl, s_M_meaningOfPat_360 ⟨(am_kk hB rfl), am_nm_k (show am_u (am_u I1 101 8 1) 101 9 (pl (i + 1)) 101 8 = 1 from (am_u_kn (by decide)).trans am_u_kk) ?_⟩⟩)
    · have hcx : ¬ (fx (G (r + 7)) m (nm (i + 1)) = -1 ∨ F (r + 5) (fx (G (r + 7)) m (nm (i + 1))).toNat ≠ w) := by
        rw [x1, Int.toNat_natCast]
        rintro (q | q)
        · omega
        · exact q x2
      rw [if_neg hcx, x1, Int.toNat_natCast, ls_fg] at etf
      have ha := hE.2.2.2.2.2.1 c' hc'
      have hmm := hE.2.2.1
      obtain ⟨mn, hmn⟩ : ∃ mn : Nat, F (r + 6) c' = (mn : Int) := ⟨(F (r + 6) c').toNat, by omega⟩
      rw [hmn, Int.toNat_natCast] at etf
      rintro _ rfl _ _
      refine ⟨fun h => absurd rfl h, fun _ => ⟨(am_kk hB rfl), m_askFor (p := p) (A := A) (lz := lz) hB hE hρ (rf_tab ht fr1) hc' x2 ((f1 _ _ (by omega)).trans hl) hw ((f1 _ _ (by omega)).trans hp) ((f1 _ _ (by omega)).trans hlz.1) (acS_fr hA (fun a j a1 a2 => f1 a j (by omega))) (by omega) (fun I2 f2 a2 => ⟨rfl, s_M_meaningOfPat_377 ⟨(am_kk hB rfl), am_nm_k ((f2 _ _ (by omega) (by omega)).trans i7) ?_⟩⟩)⟩⟩
      have f12 : ∀ a j : Nat, ¬ (a = 101 ∧ j = 7) → ¬ (a = 119 ∧ j = 12 * s + ρ) → ¬ ((a = 120 ∨ a = 121) ∧ j = 150 * (12 * s + ρ) + A.length) → I2 a j = I a j := fun a j h1 h2 h3 => (f2 a j h2 h3).trans (f1 a j h1)
      have i33 : I2 101 33 = (f : Int) := (f12 _ _ (by omega) (by omega) (by omega)).trans hS.1
      have i35 : I2 101 35 = (p : Int) := (f12 _ _ (by omega) (by omega) (by omega)).trans hp
      have ixf : (0 : Int) ≤ (f : Int) ∧ (f : Int) < ((8 : Nat) : Int) := ⟨by omega, by omega⟩
      rintro _ rfl _ _
      refine am_ar_i (by omega) (by omega) ⟨⟨by decide, (am_kk hB rfl)⟩, (am_kk hB rfl), 122, (am_rf hB rfl), (am_kk hB rfl), am_nm_k (show am_u I2 101 7 (((i + 1 : Nat) : Int) + 1) 101 33 = (f : Int) from (am_u_kn (by decide)).trans i33) ?_⟩
      rintro _ rfl _ _
      refine ⟨_, by decide, (am_kk hB rfl), ixf, (am_kk hB rfl), 123, (am_rf hB rfl), (am_kk hB rfl), am_nm_k (show am_u (am_u I2 101 7 (((i + 1 : Nat) : Int) + 1)) 122 f (c' : Int) 101 33 = (f : Int) from by rw [am_u_ne (by decide), am_u_kn (by decide), i33]) ?_⟩
      rintro _ rfl _ _
      refine ⟨_, by decide, (am_kk hB rfl), ixf, (am_kk hB rfl), 124, (am_rf hB rfl), (am_kk hB rfl), am_nm_k (show am_u (am_u (am_u I2 101 7 (((i + 1 : Nat) : Int) + 1)) 122 f (c' : Int)) 123 f 0 101 33 = (f : Int) from by rw [am_u_ne (by decide), am_u_ne (by decide), am_u_kn (by decide), i33]) ?_⟩
      rintro _ rfl _ _
      refine ⟨(am_kk hB rfl), am_nm_k (show am_u (am_u (am_u I2 101 7 (((i + 1 : Nat) : Int) + 1)) 122 f (c' : Int)) 123 f 0 101 35 = (p : Int) from by rw [am_u_ne (by decide), am_u_ne (by decide), am_u_kn (by decide), i35]) ?_⟩
      rintro _ rfl _ _
      refine ⟨_, by decide, (am_kk hB rfl), ixf, (am_kk hB rfl), am_nm_k (show am_u (am_u (am_u (am_u I2 101 7 (((i + 1 : Nat) : Int) + 1)) 122 f (c' : Int)) 123 f 0) 124 f (p : Int) 101 33 = (f : Int) from by rw [am_u_ne (by decide), am_u_ne (by decide), am_u_ne (by decide), am_u_kn (by decide), i33]) ?_⟩
      rintro _ rfl _ _
      refine am_ar_i (by omega) (by omega) ⟨⟨by decide, (am_kk hB rfl)⟩, rw_ret (Int.add_zero _) ⟨by decide, by decide⟩ (by omega) ?_⟩
      show rw_L d n0 s ρ K J R Q col (am_u (am_u (am_u (am_u (am_u I2 101 7 (((i + 1 : Nat) : Int) + 1)) 122 f (c' : Int)) 123 f 0) 124 f (p : Int)) 101 33 ((f : Int) + 1))
      have f7 : ∀ a j : Nat, ¬ (a = 101 ∧ (j = 7 ∨ j = 33)) → ¬ ((a = 122 ∨ a = 123 ∨ a = 124) ∧ j = f) → am_u (am_u (am_u (am_u (am_u I2 101 7 (((i + 1 : Nat) : Int) + 1)) 122 f (c' : Int)) 123 f 0) 124 f (p : Int)) 101 33 ((f : Int) + 1) a j = I2 a j := fun a j h1 h2 => by rw [am_u_off (by omega), am_u_off (by omega), am_u_off (by omega), am_u_off (by omega), am_u_off (by omega)]
      have j7 : am_u (am_u (am_u (am_u (am_u I2 101 7 (((i + 1 : Nat) : Int) + 1)) 122 f (c' : Int)) 123 f 0) 124 f (p : Int)) 101 33 ((f : Int) + 1) 101 7 = ((i + 2 : Nat) : Int) := by rw [am_u_kn (by decide), am_u_ne (by decide), am_u_ne (by decide), am_u_ne (by decide), am_u_kk]; omega
      have j33 : am_u (am_u (am_u (am_u (am_u I2 101 7 (((i + 1 : Nat) : Int) + 1)) 122 f (c' : Int)) 123 f 0) 124 f (p : Int)) 101 33 ((f : Int) + 1) 101 33 = ((f + 1 : Nat) : Int) := am_u_kk
      have j122 : am_u (am_u (am_u (am_u (am_u I2 101 7 (((i + 1 : Nat) : Int) + 1)) 122 f (c' : Int)) 123 f 0) 124 f (p : Int)) 101 33 ((f : Int) + 1) 122 f = (c' : Int) := by rw [am_u_ne (by decide), am_u_ne (by decide), am_u_ne (by decide), am_u_kk]
      have j123 : am_u (am_u (am_u (am_u (am_u I2 101 7 (((i + 1 : Nat) : Int) + 1)) 122 f (c' : Int)) 123 f 0) 124 f (p : Int)) 101 33 ((f : Int) + 1) 123 f = ((0 : Nat) : Int) := by rw [am_u_ne (by decide), am_u_ne (by decide), am_u_kk]; rfl
      have j124 : am_u (am_u (am_u (am_u (am_u I2 101 7 (((i + 1 : Nat) : Int) + 1)) 122 f (c' : Int)) 123 f 0) 124 f (p : Int)) 101 33 ((f : Int) + 1) 124 f = (p : Int) := by rw [am_u_ne (by decide), am_u_kk]
      generalize am_u (am_u (am_u (am_u (am_u I2 101 7 (((i + 1 : Nat) : Int) + 1)) 122 f (c' : Int)) 123 f 0) 124 f (p : Int)) 101 33 ((f : Int) + 1) = I7 at f7 j7 j33 j122 j123 j124 ⊢
      have fr7 : rf_fr (12 * s + ρ) f I I7 := fun a j g => (f7 a j (fun q => g (by unfold rf_ch; omega)) (fun q => g (by unfold rf_ch; omega))).trans (f12 a j (fun q => g (by unfold rf_ch; omega)) (fun q => g (by unfold rf_ch; omega)) (fun q => g (by unfold rf_ch; omega)))
      have k36 : I7 101 36 = xt_v lz := (f7 _ _ (by omega) (by omega)).trans ((f12 _ _ (by omega) (by omega) (by omega)).trans hlz.1)
      have k37 : I7 101 37 = I 101 37 := (f7 _ _ (by omega) (by omega)).trans (f12 _ _ (by omega) (by omega) (by omega))
      have aI7 : acS I7 (12 * s + ρ) (A ++ (if lz = true ∨ nwc F r (c' : Int) = true then [] else [(p, (c' : Int))])) := acS_fr a2 (fun a j a1 a2 => f7 a j (by omega) (by omega))
      have lB : (A ++ (if lz = true ∨ nwc F r (c' : Int) = true then [] else [(p, (c' : Int))])).length ≤ A.length + 1 := by
        rw [List.length_append]
        by_cases hh : lz = true ∨ nwc F r (c' : Int) = true
        · rw [if_pos hh]; simp
        · rw [if_neg hh]; simp
      refine hL ks (i + 2) q (f + 1) 0 col mn (if nwc F r (c' : Int) = true then p else 4 * p + 1) (fun z => aT (3 * c' + z)) lz _ I7 (mt_mm hT (rf_mm (J := J) fr7 hρ)) j7 hlt1 ((f7 _ _ (by omega) (by omega)).trans ((f12 _ _ (by omega) (by omega) (by omega)).trans h8)) (rf_tab ht fr7) ⟨j33, Or.inr ⟨f, c', p, rfl, hc', j122, j123, j124, hpb, rfl, hmn.symm, rfl⟩⟩ (Nat.zero_le _) (by omega) hcol (by omega) ⟨k36, fun h => ?_⟩ aI7 (by omega) hks (fun e9 I4 col4 g1 g2 g3 g4 g5 g6 g7 g8 gK g9 => ?_) (fun k e9 I4 col4 hb => bad k (by rw [etf]; rw [Nat.sub_zero] at e9; simp only [Nat.zero_add] at e9; rw [e9]; rfl) I4 col4 (rbad_t fr7 hb (by omega)))
      · rw [k37]
        cases hz : lz0 with
        | true => have := (hlz.2.1 hz).2; omega
        | false => have := hlz.2.2 hz h; omega
      · rw [Nat.sub_zero] at e9
        simp only [Nat.zero_add] at e9
        rw [e9] at etf
        have etf : tf (fx (G (r + 7)) m) (F (r + 5)) (F (r + 6)) aT (n + 1) w (tm_m (6, pl i, pl (i + 1), pl q, nm (i + 1), nu i) ks) = if ks.length < mn then some (pl q) else none := etf
        have ec : col4 = col := g7 (by omega)
        subst ec
        have frA : rf_fr (12 * s + ρ) f I I4 := rf_trans fr7 g1 (by omega)
        obtain ⟨s33, sor⟩ := g5
        have s123 : I4 123 f = ((0 + ks.length : Nat) : Int) := by
          rcases sor with h | ⟨f', c9, P, q1, q2, q3, q4, q5⟩
          · exact absurd h.1 (by omega)
          · have : f' = f := by omega
            subst this
            exact q4
        refine mr_close (c' := c') (cnt' := 0 + ks.length) (lz0 := lz0) (lz := lz) hB hE hρ (mt_mm hT (rf_mm (J := J) frA hρ)) g2 g3 g4 k41 (rf_tab ht frA) hc' s33 ((g1 122 f (by unfold rf_ch; omega)).trans j122) s123 hS (fun a j a1 a2 a3 => (g1 a j (by unfold rf_ch; omega)).trans ((f7 a j (by omega) (by omega)).trans (f12 a j (by omega) (by omega) (by omega)))) (by omega) (by omega) hcol ⟨g8.1, fun h => ?_, fun h h' => ?_⟩ g9 (fun hle I5 col5 p1 p2 p3 p4 p5 p6 p7 p8 p9 p10 => ?_) (fun hlt' I5 col5 hb => ?_)
        · have h1 := hlz.2.1 h
          rw [gK h1.1, k37]; exact h1
        · rw [gK h', k37]; exact hlz.2.2 h h'
        · rw [if_neg (by omega)] at etf
          refine ok etf I5 col5 (rf_trans frA p1 (Nat.le_refl _)) p2 p3 p4 p5 p6 p7 p8 (fun h => ?_) ?_
          · rw [p9, gK (hlz.2.1 h).1, k37]
          · have eA : A ++ (if lz = true ∨ nwc F r (c' : Int) = true then [] else [(p, (c' : Int))]) ++ (if lz = true then [] else ls_al (al (fx (G (r + 7)) m) (nwc F r) n) ((if nwc F r (c' : Int) = true then p else 4 * p + 1) + 0) ks) = A ++ (if lz = true then [] else al (fx (G (r + 7)) m) (nwc F r) (n + 1) p (tm_m (6, pl i, pl (i + 1), pl q, nm (i + 1), nu i) ks)) := by
              rw [al_56 (Or.inr rfl), x1]
              cases lz with
              | true => simp
              | false =>
                cases hb : nwc F r (c' : Int) with
                | true => simp
                | false => simp
            rw [eA] at p10
            exact p10
        · rw [if_pos (by omega)] at etf
          exact bad (pl q) etf I5 col5 (rbad_t frA hb (Nat.le_refl _))
    · rw [if_pos hx] at etf
      rintro _ rfl _ _
      refine ⟨fun _ => ⟨⟨by decide, (am_kk hB rfl)⟩, lz_v, die (pl (i + 1)) _ ((i + 1 : Nat) : Int) etf (fmis fr1) ?_ am_u_kk (by omega) (by omega) ?_⟩, fun h => absurd h (by decide)⟩
      · exact (am_u_kn (by decide)).trans am_u_kk
      · rw [am_u_kn (by decide), am_u_kn (by decide)]; exact i7
  · exact absurd h4.1 (by decide)
  · -- lazy
    subst et
    have hlt : i < c := mt_lt hT hic (by rw [k126]; decide) (by rw [k126]; decide)
    have etf : tf (fx (G (r + 7)) m) (F (r + 5)) (F (r + 6)) aT (n + 1) w (tm_m (1, pl i, pl i, pl i, nm i, nu i) [t']) = tf (fx (G (r + 7)) m) (F (r + 5)) (F (r + 6)) aT n w t' := tf_k ⟨by decide, by decide, by decide⟩
    have esz : tm_sz (n + 1) (tm_m (1, pl i, pl i, pl i, nm i, nu i) [t']) = 1 + (tm_sz n t' + 0) := rfl
    have go : ∀ I2 : Nat → Nat → Int, (∀ a j : Nat, ¬ (a = 101 ∧ (j = 36 ∨ j = 37)) → I2 a j = I a j) → lzS lz0 true f I2 → (lz0 = true → I2 101 37 = I 101 37) → am_WP (d + 4) (46, 81, [.inr (.inl 101), .inl (s : Int), .inl (ρ : Int), .inl 1, .inl (xt_v lz0), am_o, am_o], [], (0, 0), n0, K, I2, J, R) (rw_C d s ρ Q col) := by
      intro I2 f2 lz2 hK
      refine s_M_meaningOfPat_81 ⟨(am_kk hB rfl), am_nm_k ((f2 _ _ (by omega)).trans h7) ?_⟩
      rintro _ rfl _ _
      refine am_ar_i (by omega) (by omega) ⟨⟨by decide, (am_kk hB rfl)⟩, ?_⟩
      have f3 : ∀ a j : Nat, ¬ (a = 101 ∧ (j = 36 ∨ j = 37 ∨ j = 7)) → am_u I2 101 7 ((i : Int) + 1) a j = I a j := fun a j h => (am_u_off (by omega)).trans (f2 a j (by omega))
      have fr3 : rf_fr (12 * s + ρ) f I (am_u I2 101 7 ((i : Int) + 1)) := fun a j g => f3 a j (fun q => g (by unfold rf_ch; omega))
      have T3 : mt_T (am_u I2 101 7 ((i : Int) + 1)) J kd pl nu nm c := mt_mm hT (rf_mm (J := J) fr3 hρ)
      refine hP t' (i + 1) j f cnt col many base p V l w lz0 true A _ T3 am_u_kk hlt ((f3 _ _ (by omega)).trans h8) (rf_tab ht fr3) (rS_fr hS (f3 _ _ (by omega)) (fun a j a1 a2 a3 => f3 a j (by omega))) hcnt hm4 hcol (by omega) ((f3 _ _ (by omega)).trans hl) hw ((f3 _ _ (by omega)).trans hp) hpb ⟨(am_u_kn (by decide)).trans lz2.1, by rw [am_u_kn (by decide)]; exact lz2.2.1, by rw [am_u_kn (by decide)]; exact lz2.2.2⟩ (acS_fr hA (fun a j a1 a2 => f3 a j (by omega))) (by omega) hsp' (fun e9 I' col' g1 g2 g3 g4 g5 g6 g7 g8 gK g9 => ok (etf.trans e9) I' col' (rf_trans fr3 g1 (Nat.le_refl _)) g2 g3 g4 g5 g6 g7 g8 (fun hz => (gK hz).trans ((am_u_kn (by decide)).trans (hK hz))) ?_) (fun k e9 I' col' hb => bad k (etf.trans e9) I' col' (rbad_t fr3 hb (Nat.le_refl _)))
      rw [if_pos rfl] at g9
      rw [al_01 (Or.inr (Or.inl rfl)), ite_self]
      exact g9
    refine s_M_meaningOfPat_8 ⟨fun h => absurd h (by decide), fun _ => ⟨(am_kk hB rfl), m_isSign (by unfold tb_sg; decide) hB hT h7 hic (fun h => absurd (k126.symm.trans h) (by decide)) (fun _ => ⟨_, rfl, s_M_meaningOfPat_18 ⟨fun _ => ⟨(am_kk hB rfl), m_isSign (by unfold tb_sg; decide) hB hT h7 hic (fun _ => ⟨_, rfl, s_M_meaningOfPat_58 ⟨fun h => absurd h (by decide), fun _ => ⟨(am_kk hB rfl), am_nm_k hlz.1 ?_⟩⟩⟩) (fun h => absurd k126 h)⟩, fun h => absurd rfl h⟩⟩)⟩⟩
    rintro _ rfl _ _
    refine ⟨fun lzt => go I (fun _ _ _ => rfl) ?_ (fun _ => rfl), fun lzf => ⟨⟨by decide, (am_kk hB rfl)⟩, Or.inr rfl, (am_kk hB rfl), am_nm_k (show am_u I 101 36 1 101 33 = (f : Int) from (am_u_kn (by decide)).trans hS.1) ?_⟩⟩
    · have e : lz = true := by
        cases lz
        · exact absurd rfl lzt
        · rfl
      rw [e] at hlz; exact hlz
    · have e : lz = false := by
        cases lz
        · rfl
        · exact absurd lzf (by decide)
      rintro _ rfl _ _
      refine ⟨⟨by decide, (am_kk hB rfl)⟩, go _ (fun a j h => by rw [am_u_off (by omega), am_u_off (by omega)]) ⟨(am_u_kn (by decide)).trans am_u_kk, fun h => ?_, fun _ _ => am_u_kk⟩ (fun h => ?_)⟩
      all_goals
        have := (hlz.2.1 h).1
        rw [e] at this
        exact absurd this (by decide)
  · -- strict
    subst et
    have hlt : i < c := mt_lt hT hic (by rw [k33]; decide) (by rw [k33]; decide)
    have etf : tf (fx (G (r + 7)) m) (F (r + 5)) (F (r + 6)) aT (n + 1) w (tm_m (2, pl i, pl i, pl i, nm i, nu i) [t']) = tf (fx (G (r + 7)) m) (F (r + 5)) (F (r + 6)) aT n w t' := tf_k ⟨by decide, by decide, by decide⟩
    have esz : tm_sz (n + 1) (tm_m (2, pl i, pl i, pl i, nm i, nu i) [t']) = 1 + (tm_sz n t' + 0) := rfl
    have go : ∀ (I2 : Nat → Nat → Int) (B : List (Nat × Int)), (∀ a j : Nat, ¬ (a = 119 ∧ j = 12 * s + ρ) → ¬ ((a = 120 ∨ a = 121) ∧ j = 150 * (12 * s + ρ) + A.length) → I2 a j = I a j) → acS I2 (12 * s + ρ) (A ++ B) → B.length ≤ 1 → (∀ X : List (Nat × Int), A ++ B ++ (if lz = true then [] else X) = A ++ (if lz = true then [] else (p, -1) :: X)) → am_WP (d + 4) (46, 39, [.inr (.inl 101), .inl (s : Int), .inl (ρ : Int), .inl 1, .inl (xt_v lz0), am_o, am_o], [], (0, 0), n0, K, I2, J, R) (rw_C d s ρ Q col) := by
      intro I2 B f2 a2 hBl hX
      refine s_M_meaningOfPat_39 ⟨(am_kk hB rfl), am_nm_k ((f2 _ _ (by omega) (by omega)).trans h7) ?_⟩
      rintro _ rfl _ _
      refine am_ar_i (by omega) (by omega) ⟨⟨by decide, (am_kk hB rfl)⟩, ?_⟩
      have f3 : ∀ a j : Nat, ¬ (a = 101 ∧ j = 7) → ¬ (a = 119 ∧ j = 12 * s + ρ) → ¬ ((a = 120 ∨ a = 121) ∧ j = 150 * (12 * s + ρ) + A.length) → am_u I2 101 7 ((i : Int) + 1) a j = I a j := fun a j h1 h2 h3 => (am_u_off (by omega)).trans (f2 a j h2 h3)
      have fr3 : rf_fr (12 * s + ρ) f I (am_u I2 101 7 ((i : Int) + 1)) := fun a j g => f3 a j (fun q => g (by unfold rf_ch; omega)) (fun q => g (by unfold rf_ch; omega)) (fun q => g (by unfold rf_ch; omega))
      have T3 : mt_T (am_u I2 101 7 ((i : Int) + 1)) J kd pl nu nm c := mt_mm hT (rf_mm (J := J) fr3 hρ)
      refine hP t' (i + 1) j f cnt col many base p V l w lz0 lz (A ++ B) _ T3 am_u_kk hlt ((f3 _ _ (by omega) (by omega) (by omega)).trans h8) (rf_tab ht fr3) (rS_fr hS (f3 _ _ (by omega) (by omega) (by omega)) (fun a j a1 a2 a3 => f3 a j (by omega) (by omega) (by omega))) hcnt hm4 hcol (by omega) ((f3 _ _ (by omega) (by omega) (by omega)).trans hl) hw ((f3 _ _ (by omega) (by omega) (by omega)).trans hp) hpb ⟨(f3 _ _ (by omega) (by omega) (by omega)).trans hlz.1, by rw [f3 _ _ (by omega) (by omega) (by omega)]; exact hlz.2.1, by rw [f3 _ _ (by omega) (by omega) (by omega)]; exact hlz.2.2⟩ (acS_fr a2 (fun a j a1 a2 => am_u_ne (by omega))) (by rw [List.length_append]; omega) hsp' (fun e9 I' col' g1 g2 g3 g4 g5 g6 g7 g8 gK g9 => ok (etf.trans e9) I' col' (rf_trans fr3 g1 (Nat.le_refl _)) g2 g3 g4 g5 g6 g7 g8 (fun hz => (gK hz).trans (f3 _ _ (by omega) (by omega) (by omega))) ?_) (fun k e9 I' col' hb => bad k (etf.trans e9) I' col' (rbad_t fr3 hb (Nat.le_refl _)))
      rw [hX] at g9
      rw [al_2]
      exact g9
    refine s_M_meaningOfPat_8 ⟨fun h => absurd h (by decide), fun _ => ⟨(am_kk hB rfl), m_isSign (by unfold tb_sg; decide) hB hT h7 hic (fun _ => ⟨_, rfl, s_M_meaningOfPat_18 ⟨fun h => absurd h (by decide), fun _ => ⟨(am_kk hB rfl), am_nm_k hlz.1 ?_⟩⟩⟩) (fun h => absurd k33 h)⟩⟩
    rintro _ rfl _ _
    refine ⟨fun lzt => go I [] (fun _ _ _ _ => rfl) (by rw [List.append_nil]; exact hA) (by decide) (fun X => ?_), fun lzf => ⟨(am_kk hB rfl), am_nm_k hp ?_⟩⟩
    · have e : lz = true := by
        cases lz
        · exact absurd rfl lzt
        · rfl
      rw [e]; simp
    · have e : lz = false := by
        cases lz
        · rfl
        · exact absurd lzf (by decide)
      rintro _ rfl _ _
      refine ⟨(am_kk hB rfl), m_act (p := p) (w := -1) hB hs hρ hA.1 (by omega) hA.2 (fun I2 f2 a1 a2 => ⟨rfl, go I2 [(p, -1)] f2 ⟨by rw [a1]; simp, a2⟩ (by simp) (fun X => ?_)⟩)⟩
      rw [e]; simp
  · -- named
    subst et
    have hlt : i < c := mt_lt hT hic (by rw [k4]; decide) (by rw [k4]; decide)
    have hlt2 : i + 1 < c := mt_lt hT hlt (by rw [k64]; decide) (by rw [k64]; decide)
    have etf : tf (fx (G (r + 7)) m) (F (r + 5)) (F (r + 6)) aT (n + 1) w (tm_m (3, pl i, pl i, pl i, nm i, nu i) [t']) = tf (fx (G (r + 7)) m) (F (r + 5)) (F (r + 6)) aT n w t' := tf_k ⟨by decide, by decide, by decide⟩
    have esz : tm_sz (n + 1) (tm_m (3, pl i, pl i, pl i, nm i, nu i) [t']) = 1 + (tm_sz n t' + 0) := rfl
    have hs4 := (tr_sort (hT.1 i hic).2).2.2.1
    have hsg := tr_sign (x := 64) (by unfold tb_sg; decide) (hT.1 (i + 1) (by omega)).2
    refine s_M_meaningOfPat_8 ⟨fun h => absurd h (by decide), fun _ => ⟨(am_kk hB rfl), m_isSign (by unfold tb_sg; decide) hB hT h7 hic (fun h => absurd (k4.symm.trans h) (by decide)) (fun _ => ⟨_, rfl, s_M_meaningOfPat_18 ⟨fun _ => ⟨(am_kk hB rfl), m_isSign (by unfold tb_sg; decide) hB hT h7 hic (fun h => absurd (k4.symm.trans h) (by decide)) (fun _ => ⟨_, rfl, s_M_meaningOfPat_58 ⟨fun _ => ⟨(am_kk hB rfl), 103, (am_rf hB rfl), (am_kk hB rfl), am_nm_k h7 ?_⟩, fun h => absurd rfl h⟩⟩)⟩, fun h => absurd rfl h⟩⟩)⟩⟩
    rintro _ rfl _ _
    refine ⟨_, (am_kk hB rfl), ⟨by omega, by omega⟩, fun z3 hz3 _ _ => ⟨fun h => absurd (hz3.trans (hs4.mpr k4)) h, fun _ => ⟨(am_kk hB rfl), 103, (am_rf hB rfl), (am_kk hB rfl), am_nm_k h7 ?_⟩⟩⟩
    rintro _ rfl _ _
    refine am_ar_i (by omega) (by omega) ⟨_, (am_kk hB rfl), ⟨by omega, by omega⟩, fun z8 hz8 _ _ => ⟨fun h => absurd (hz8.trans (hsg.mpr k64).1) h, fun _ => ⟨(am_kk hB rfl), 105, (am_rf hB rfl), (am_kk hB rfl), am_nm_k h7 ?_⟩⟩⟩
    rintro _ rfl _ _
    refine am_ar_i (by omega) (by omega) ⟨_, by decide, (am_kk hB rfl), ⟨by omega, by omega⟩, fun z13 hz13 _ _ z15 hz15 _ _ => ⟨fun h => ?_, fun _ => ⟨(am_kk hB rfl), am_nm_k h7 ?_⟩⟩⟩
    · exfalso
      apply h
      rw [hz15, am_lc0, hz13]
      exact (hsg.mpr k64).2
    · rintro _ rfl _ _
      refine am_ar_i (by omega) (by omega) ⟨⟨by decide, (am_kk hB rfl)⟩, ?_⟩
      have f3 : ∀ a j : Nat, ¬ (a = 101 ∧ j = 7) → am_u I 101 7 ((i : Int) + 2) a j = I a j := fun a j h => am_u_off h
      have fr3 : rf_fr (12 * s + ρ) f I (am_u I 101 7 ((i : Int) + 2)) := rf_ut rf_refl (rf_101 (by omega))
      have T3 : mt_T (am_u I 101 7 ((i : Int) + 2)) J kd pl nu nm c := mt_mm hT (rf_mm (J := J) fr3 hρ)
      refine hP t' (i + 2) j f cnt col many base p V l w lz0 lz A _ T3 am_u_kk hlt2 ((f3 _ _ (by omega)).trans h8) (rf_tab ht fr3) (rS_fr hS (f3 _ _ (by omega)) (fun a j a1 a2 a3 => f3 a j (by omega))) hcnt hm4 hcol (by omega) ((f3 _ _ (by omega)).trans hl) hw ((f3 _ _ (by omega)).trans hp) hpb ⟨(f3 _ _ (by omega)).trans hlz.1, by rw [f3 _ _ (by omega)]; exact hlz.2.1, by rw [f3 _ _ (by omega)]; exact hlz.2.2⟩ (acS_fr hA (fun a j a1 a2 => f3 a j (by omega))) (by omega) hsp' (fun e9 I' col' g1 g2 g3 g4 g5 g6 g7 g8 gK g9 => ok (etf.trans e9) I' col' (rf_trans fr3 g1 (Nat.le_refl _)) g2 g3 g4 g5 g6 g7 g8 (fun hz => (gK hz).trans (f3 _ _ (by omega))) ?_) (fun k e9 I' col' hb => bad k (etf.trans e9) I' col' (rbad_t fr3 hb (Nat.le_refl _)))
      rw [al_3]
      exact g9
  all_goals
    subst et
    subst ej
    have etf : tf (fx (G (r + 7)) m) (F (r + 5)) (F (r + 6)) aT (n + 1) w (tm_m (0, pl i, pl i, pl i, nm i, nu i) []) = none := tf_0 ⟨by decide, by decide, by decide⟩
    have hk : kd i ≠ 0 ∧ kd i ≠ 1 ∧ kd i ≠ 33 ∧ kd i ≠ 126 ∧ kd i ≠ 5 ∧ kd i ≠ 3 ∧ kd i ≠ 40 := by omega
    have hn4 : kd i = 4 → kd (i + 1) ≠ 64 := by
      intro h
      first
        | exact n64
        | exact absurd (k95.symm.trans h) (by decide)
    have hlt : i < c := mt_lt hT hic hk.1 hk.2.1
    have hs5 := (tr_sort (hT.1 i hic).2).2.2.2.1
    refine mp_core hB hT h7 hlt hk.2.2.1 hk.2.2.2.1 hn4 (s_M_meaningOfPat_8 ⟨fun _ => ⟨(am_kk hB rfl), 103, (am_rf hB rfl), (am_kk hB rfl), am_nm_k h7 ?_⟩, fun h => absurd rfl h⟩)
    rintro _ rfl _ _
    refine ⟨_, (am_kk hB rfl), ⟨by omega, by omega⟩, fun z3 hz3 _ _ => ⟨fun _ => ⟨(am_kk hB rfl), m_isCon hB hT h7 hic (fun h => absurd h hk.2.2.2.2.2.1) (fun _ => ⟨_, rfl, s_M_meaningOfPat_266 ⟨fun _ => ⟨(am_kk hB rfl), m_isSign (by unfold tb_sg; decide) hB hT h7 hic (fun h => absurd h hk.2.2.2.2.2.2) (fun _ => ⟨_, rfl, ?_⟩)⟩, fun h => absurd rfl h⟩⟩)⟩, fun h => absurd (hs5.mp (hz3.symm.trans h)) hk.2.2.2.2.1⟩⟩
    have a3 : acS I (12 * s + ρ) (A ++ (if lz = true then [] else al (fx (G (r + 7)) m) (nwc F r) (n + 1) p (tm_m (0, pl i, pl i, pl i, nm i, nu i) []))) := by
      rw [al_01 (Or.inl rfl), ite_self, List.append_nil]; exact hA
    exact (mp_done (I1 := I) hB hs h7 (by omega) h8 hS (by omega) (by omega) hcol hlz a3 rf_refl (fun I' col' g1 g2 g3 g4 g5 g6 g7 g8 g9 => ok etf I' col' g1 g2 hlt g3 g4 g5 g6 g7 (fun _ => g8) g9)).2.2
end MPS
