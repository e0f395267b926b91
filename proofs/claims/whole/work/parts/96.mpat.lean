/-! MEANING: the reference's pats, one in another -/
section TFL
variable {cof : Int → Int} {cT ar aT : Nat → Int} {nwf : Int → Bool} {n p : Nat} {w a b e nn x : Int} {ks : List (tm n)} {k : tm n}
theorem tf_4 : tf cof cT ar aT (n + 1) w (tm_m (4, a, b, e, nn, x) []) = if w = 6 then none else some a := if_pos rfl
theorem tf_5 : tf cof cT ar aT (n + 1) w (tm_m (5, a, b, e, nn, x) ks) = if cof nn = -1 ∨ cT (cof nn).toNat ≠ w then some b else if ar (cof nn).toNat = 0 then none else some b := by
  refine (if_neg (show ¬ (5 : Int) = 4 by decide)).trans ((if_pos (Or.inl rfl)).trans ?_)
  show (if cof nn = -1 ∨ cT (cof nn).toNat ≠ w then some b else if (5 : Int) = 5 then _ else _) = _
  rw [if_pos (show (5 : Int) = 5 from rfl)]; rfl
theorem tf_6 : tf cof cT ar aT (n + 1) w (tm_m (6, a, b, e, nn, x) ks) = if cof nn = -1 ∨ cT (cof nn).toNat ≠ w then some b else ls_f (tf cof cT ar aT n) (tm_at n) e (fun i => aT (3 * (cof nn).toNat + i)) (ar (cof nn).toNat).toNat ks := by
  refine (if_neg (show ¬ (6 : Int) = 4 by decide)).trans ((if_pos (Or.inr rfl)).trans ?_)
  show (if cof nn = -1 ∨ cT (cof nn).toNat ≠ w then some b else if (6 : Int) = 5 then _ else _) = _
  rw [if_neg (show ¬ (6 : Int) = 5 by decide)]; rfl
theorem tf_k {kk : Int} (h : kk ≠ 4 ∧ kk ≠ 5 ∧ kk ≠ 6) : tf cof cT ar aT (n + 1) w (tm_m (kk, a, b, e, nn, x) [k]) = tf cof cT ar aT n w k :=
  (if_neg (show ¬ kk = 4 from h.1)).trans (if_neg (show ¬ (kk = 5 ∨ kk = 6) by omega))
theorem tf_0 {kk : Int} (h : kk ≠ 4 ∧ kk ≠ 5 ∧ kk ≠ 6) : tf cof cT ar aT (n + 1) w (tm_m (kk, a, b, e, nn, x) []) = none :=
  (if_neg (show ¬ kk = 4 from h.1)).trans (if_neg (show ¬ (kk = 5 ∨ kk = 6) by omega))
theorem al_4 : al cof nwf (n + 1) p (tm_m (4, a, b, e, nn, x) []) = [(p, 100 + x)] :=
  (if_neg (show ¬ (4 : Int) = 2 by decide)).trans ((if_neg (show ¬ (4 : Int) = 3 by decide)).trans (if_pos rfl))
theorem al_56 {kk : Int} (h : kk = 5 ∨ kk = 6) : al cof nwf (n + 1) p (tm_m (kk, a, b, e, nn, x) ks) = if nwf (cof nn) = true then ls_al (al cof nwf n) p ks else (p, cof nn) :: ls_al (al cof nwf n) (4 * p + 1) ks :=
  (if_neg (show ¬ kk = 2 by omega)).trans ((if_neg (show ¬ kk = 3 by omega)).trans ((if_neg (show ¬ kk = 4 by omega)).trans (if_pos h)))
theorem al_01 {kk : Int} (h : kk = 0 ∨ kk = 1 ∨ kk = 7) : al cof nwf (n + 1) p (tm_m (kk, a, b, e, nn, x) ks) = [] :=
  (if_neg (show ¬ kk = 2 by omega)).trans ((if_neg (show ¬ kk = 3 by omega)).trans ((if_neg (show ¬ kk = 4 by omega)).trans (if_neg (show ¬ (kk = 5 ∨ kk = 6) by omega))))
theorem al_2 : al cof nwf (n + 1) p (tm_m (2, a, b, e, nn, x) [k]) = (p, -1) :: al cof nwf n p k := by
  refine (if_pos rfl).trans ?_
  show (p, -1) :: (al cof nwf n p k ++ []) = _
  rw [List.append_nil]
theorem al_3 : al cof nwf (n + 1) p (tm_m (3, a, b, e, nn, x) [k]) = al cof nwf n p k := by
  refine (if_neg (show ¬ (3 : Int) = 2 by decide)).trans ((if_pos rfl).trans ?_)
  show al cof nwf n p k ++ [] = _
  rw [List.append_nil]
end TFL
section MPQ
variable {d n0 : Nat} {K : Nat → am_K} {J : Nat → Nat → Int} {R : Nat → Nat → Option Nat} {Q : am_Q} {kd pl nu nm : Nat → Int} {c s ρ : Nat} {N m wd : Nat} {F G : Nat → Nat → Int} {aT W : Nat → Int} {r : Nat}
/-- the sign ) -/
theorem mr_close {I I0 : Nat → Nat → Int} {q c' f cnt cnt' col many base : Nat} {V : Nat → Int} {lz0 lz : Bool} {A : List (Nat × Int)} (hB : am_B K R) (hE : rE F aT W r s N m wd) (hρ : ρ < 12) (hT : mt_T I J kd pl nu nm c) (h7 : I 101 7 = (q : Int)) (hqc : q ≤ c) (h8 : I 101 8 = 0) (hk : kd q = 41) (ht : mtab F G r s N m wd I J) (hc' : c' < m) (h33 : I 101 33 = ((f + 1 : Nat) : Int)) (h122 : I 122 f = (c' : Int)) (h123 : I 123 f = (cnt' : Int)) (hS : rS F aT W r m wd f cnt col V many base I0) (hfr0 : ∀ a j : Nat, 122 ≤ a → a ≤ 124 → j < f → I a j = I0 a j) (hf : f ≤ 6) (hcnt : cnt ≤ 4) (hcol : col ≤ 4) (hlz : lzS lz0 lz f I) (hA : acS I (12 * s + ρ) A)
    (ok : F (r + 6) c' ≤ (cnt' : Int) → ∀ (I' : Nat → Nat → Int) (col' : Nat), rf_fr (12 * s + ρ) f I I' → I' 101 7 = ((q + 1 : Nat) : Int) → q + 1 ≤ c → I' 101 8 = 0 → rS F aT W r m wd f (cnt + 1) col' V many base I' → col' ≤ col + 1 → (f ≠ 0 → col' = col) → lzL lz0 f I' → I' 101 37 = I 101 37 → acS I' (12 * s + ρ) A → rw_L d n0 s ρ K J R Q col' I')
    (bad : (cnt' : Int) < F (r + 6) c' → ∀ (I' : Nat → Nat → Int) (col' : Nat), rbad (12 * s + ρ) f (pl q) I I' → rw_L d n0 s ρ K J R Q col' I') : rw_L d n0 s ρ K J R Q col I := by
  have h12 := hT.2.1
  have ha := hE.2.2.2.2.2.1 c' hc'
  have hs := hE.1
  have hmm := hE.2.2.1
  have m2 := (ht.2.2.2.2.2 c' hc').2.1
  have h33' : I 101 33 = (f : Int) + 1 := h33
  have hl : q < c := mt_lt hT hqc (by rw [hk]; decide) (by rw [hk]; decide)
  have ixf : (0 : Int) ≤ (f : Int) ∧ (f : Int) < ((8 : Nat) : Int) := ⟨by omega, by omega⟩
  have ixc : (0 : Int) ≤ ((36 * s + c' : Nat) : Int) ∧ ((36 * s + c' : Nat) : Int) < ((72 : Nat) : Int) := ⟨by omega, by omega⟩
  -- behind the test
  have b142 : ∀ (I1 : Nat → Nat → Int) (k8 : Int), (k8 = 0 ∨ k8 = 1) → rf_fr (12 * s + ρ) f I I1 → I1 101 8 = k8 → I1 101 33 = (f : Int) + 1 → I1 101 36 = xt_v lz → I1 101 37 = I 101 37 → I1 101 7 = (q : Int) → (∀ a j : Nat, a ≠ 101 → I1 a j = I a j) → (∀ (I' : Nat → Nat → Int) (col' : Nat), rf_fr (12 * s + ρ) f I I' → I' 101 7 = (q : Int) + (1 - k8) → I' 101 8 = k8 → I' 101 9 = I1 101 9 → rS F aT W r m wd f (cnt + 1) col' V many base I' → col' ≤ col + 1 → (f ≠ 0 → col' = col) → lzL lz0 f I' → I' 101 37 = I 101 37 → acS I' (12 * s + ρ) A → rw_L d n0 s ρ K J R Q col' I') → ∀ X : Int, am_WP (d + 5) (44, 142, [.inr (.inl 101), .inl (s : Int), .inl (ρ : Int), .inl (col : Int), .inl 1, .inl X], [], (0, 0), n0, K, I1, J, R) Q := by
    intro I1 k8 hk8 f1 g8 g33 g36 g37 g7 got next X
    have v01 : xt_v lz = 0 ∨ xt_v lz = 1 := by cases lz <;> simp [xt_v]
    -- lazy stays as it is
    have r176 : am_WP (d + 5) (44, 176, [.inr (.inl 101), .inl (s : Int), .inl (ρ : Int), .inl (col : Int), .inl 1, .inl X], [.inl (xt_v lz), .inr (.inl 101)], (0, 0), n0, K, am_u I1 101 33 (f : Int), J, R) Q := by
      have S2 : rS F aT W r m wd f cnt col V many base (am_u (am_u I1 101 33 (f : Int)) 101 36 (xt_v lz)) := by
        refine rS_fr hS ?_ (fun a j a1 a2 a3 => ?_)
        · rw [am_u_kn (by decide), am_u_kk]; exact hS.1.symm
        · rw [am_u_ne (by omega), am_u_ne (by omega), got a j (by omega)]; exact hfr0 a j a1 a2 a3
      refine s_M_meaningOfRow_176 ⟨⟨by decide, (am_kk hB rfl)⟩, v01, (am_kk hB rfl), m_behind hB S2 (by omega) (by omega) (fun I3 z col' f3 S3 e1 z0 z1 z2 => ⟨z, rfl, s_M_meaningOfRow_184 (am_ar_i (by omega) (by omega) ?_)⟩)⟩
      rw [e1]
      have i7 : I3 101 7 = (q : Int) := by rw [f3 _ _ (by omega), am_u_kn (by decide), am_u_kn (by decide)]; exact g7
      have i8 : I3 101 8 = k8 := by rw [f3 _ _ (by omega), am_u_kn (by decide), am_u_kn (by decide)]; exact g8
      have i36 : I3 101 36 = xt_v lz := by rw [f3 _ _ (by omega), am_u_kk]
      have i37 : I3 101 37 = I 101 37 := by rw [f3 _ _ (by omega), am_u_kn (by decide), am_u_kn (by decide)]; exact g37
      have i33 : I3 101 33 = (f : Int) := by rw [f3 _ _ (by omega), am_u_kn (by decide), am_u_kk]
      have fr3 : rf_fr (12 * s + ρ) f I I3 := rf_trans (rf_ut (rf_ut f1 (rf_101 (by omega))) (rf_101 (by omega))) (f' := f) (fun a j g => f3 a j (fun q => g (by unfold rf_ch; omega))) (Nat.le_refl _)
      refine ⟨(am_kk hB rfl), am_nm_k i7 ?_⟩
      rintro _ rfl _ _
      refine ⟨(am_kk hB rfl), fun z8 hz8 _ _ => ?_⟩
      have hz8' : z8 = k8 := hz8.trans i8
      have r203 : am_WP (d + 5) (44, 203, [.inr (.inl 101), .inl (s : Int), .inl (ρ : Int), .inl (col' : Int), .inl 1, .inl X], [.inl (1 - k8), .inl (q : Int), .inr (.inl 101)], (0, 0), n0, K, I3, J, R) Q := by
        have fin : ∀ y : Int, (y = 0 ∨ y = 1) → y = xt_v lz0 → am_WP (d + 5) (44, 231, [.inr (.inl 101), .inl (s : Int), .inl (ρ : Int), .inl (col' : Int), .inl 1, .inl X], [.inl y, .inr (.inl 101)], (0, 0), n0, K, am_u I3 101 7 ((q : Int) + (1 - k8)), J, R) Q := by
          intro y hy hy2
          refine s_M_meaningOfRow_231 ⟨⟨by decide, (am_kk hB rfl)⟩, hy, ?_⟩
          have g := next (am_u (am_u I3 101 7 ((q : Int) + (1 - k8))) 101 36 y) col' (rf_ut (rf_ut fr3 (rf_101 (by omega))) (rf_101 (by omega))) ?_ ?_ ?_ (rS_fr S3 ?_ (fun a j a1 a2 a3 => ?_)) (by omega) (fun h0 => ?_) ⟨?_, fun h => ?_⟩ ?_ (acS_fr hA (fun a j a1 a2 => ?_))
          · exact am_WP.forget g _ (am_le_eq (am_le_eq (am_le_eq (am_le_eq (am_le_eq (am_le_o am_le_nil))))))
          · rw [am_u_kn (by decide), am_u_kk]
          · rw [am_u_kn (by decide), am_u_kn (by decide)]; exact i8
          · rw [am_u_kn (by decide), am_u_kn (by decide), f3 _ _ (by omega), am_u_kn (by decide), am_u_kn (by decide)]
          · rw [am_u_kn (by decide), am_u_kn (by decide)]
          · rw [am_u_ne (by omega), am_u_ne (by omega)]
          · have := z2 h0; omega
          · rw [am_u_kk]; exact hy2
          · rw [am_u_kn (by decide), am_u_kn (by decide), i37]
            exact (hlz.2.1 h).2
          · rw [am_u_kn (by decide), am_u_kn (by decide), i37]
          · rw [am_u_ne (by omega), am_u_ne (by omega), f3 _ _ (by omega), am_u_ne (by omega), am_u_ne (by omega), got a j (by omega)]
        have j36 : am_u I3 101 7 ((q : Int) + (1 - k8)) 101 36 = xt_v lz := (am_u_kn (by decide)).trans i36
        have j37 : am_u I3 101 7 ((q : Int) + (1 - k8)) 101 37 = I 101 37 := (am_u_kn (by decide)).trans i37
        have j33 : am_u I3 101 7 ((q : Int) + (1 - k8)) 101 33 = (f : Int) := (am_u_kn (by decide)).trans i33
        refine s_M_meaningOfRow_203 (am_ar_i (by omega) (by omega) ⟨⟨by decide, (am_kk hB rfl)⟩, (am_kk hB rfl), am_nm_k j36 ?_⟩)
        rintro _ rfl _ _
        refine ⟨fun h => s_M_meaningOfRow_230 (fin 0 (Or.inl rfl) ?_), fun h => ⟨(am_kk hB rfl), am_nm_k j37 ?_⟩⟩
        · cases lz0 with
          | false => rfl
          | true => rw [(hlz.2.1 rfl).1] at h; exact absurd h (by decide)
        · have lt : lz = true := by
            cases lz
            · exact absurd rfl h
            · rfl
          rintro _ rfl _ _
          refine ⟨(am_kk hB rfl), am_nm_k j33 ?_⟩
          rintro _ rfl _ _
          refine ⟨fun h1 => s_M_meaningOfRow_230 (fin 0 (Or.inl rfl) ?_), fun h1 => fin 1 (Or.inr rfl) ?_⟩
          · cases lz0 with
            | false => rfl
            | true => have := (hlz.2.1 rfl).2; omega
          · cases lz0 with
            | false => have := hlz.2.2 rfl lt; omega
            | true => rfl
      rcases hk8 with e | e
      · rw [e] at r203
        exact ⟨fun _ => r203, fun h => absurd (hz8'.trans e) h⟩
      · rw [e] at r203
        exact ⟨fun h => absurd h (by omega), fun _ => r203⟩
    refine s_M_meaningOfRow_142 ⟨(am_kk hB rfl), am_nm_k g33 ?_⟩
    rintro _ rfl _ _
    refine am_ar_i (by omega) (by omega) ?_
    rw [show (f : Int) + 1 - 1 = (f : Int) by omega]
    refine ⟨⟨by decide, (am_kk hB rfl)⟩, (am_kk hB rfl), am_nm_k (show am_u I1 101 33 (f : Int) 101 36 = xt_v lz from (am_u_kn (by decide)).trans g36) ?_⟩
    rintro _ rfl _ _
    refine ⟨fun h => s_M_meaningOfRow_175 ?_, fun h => ⟨(am_kk hB rfl), am_nm_k (show am_u I1 101 33 (f : Int) 101 37 = I 101 37 from (am_u_kn (by decide)).trans g37) ?_⟩⟩
    · rw [h] at r176; exact r176
    · have lt : lz = true := by
        cases lz
        · exact absurd rfl h
        · rfl
      rintro _ rfl _ _
      refine ⟨(am_kk hB rfl), am_nm_k (show am_u I1 101 33 (f : Int) 101 33 = (f : Int) from am_u_kk) ?_⟩
      rintro _ rfl _ _
      have le : I 101 37 ≤ (f : Int) := by
        cases lz0 with
        | false => have := hlz.2.2 rfl lt; omega
        | true => have := (hlz.2.1 rfl).2; omega
      refine ⟨fun h1 => absurd h1 (by omega), fun h1 => ?_⟩
      rw [lt] at r176
      exact r176
  refine s_M_meaningOfRow_46 ⟨fun h => absurd h (by decide), fun _ => ⟨(am_kk hB rfl), am_nm_k h8 ?_⟩⟩
  rintro _ rfl _ _
  refine ⟨fun h => absurd rfl h, fun _ => ⟨(am_kk hB rfl), am_nm_k h33' ?_⟩⟩
  rintro _ rfl _ _
  refine ⟨fun _ => s_M_meaningOfRow_90 ⟨(am_kk hB rfl), m_isSign (by unfold tb_sg; decide) hB hT h7 hqc (fun _ => ⟨_, rfl, s_M_meaningOfRow_96 ⟨fun h => absurd h (by decide), fun _ => am_ar_i (by omega) (by omega) ⟨(am_kk hB rfl), 122, (am_rf hB rfl), (am_kk hB rfl), am_nm_k h33' ?_⟩⟩⟩) (fun h => absurd hk h)⟩, fun h => absurd h (by omega)⟩
  rintro _ rfl _ _
  refine am_ar_i (by omega) (by omega) ?_
  rw [show (f : Int) + 1 - 1 = (f : Int) by omega]
  refine ⟨_, (am_kk hB rfl), ixf, am_nm_k h122 ?_⟩
  rintro _ rfl _ _
  refine am_ar_i (by omega) (by omega) ?_
  rw [show (36 : Int) * (s : Int) + (c' : Int) = ((36 * s + c' : Nat) : Int) by omega]
  refine ⟨(am_kk hB rfl), 123, (am_rf hB rfl), (am_kk hB rfl), am_nm_k h33' ?_⟩
  rintro _ rfl _ _
  refine am_ar_i (by omega) (by omega) ?_
  rw [show (f : Int) + 1 - 1 = (f : Int) by omega]
  refine ⟨_, (am_kk hB rfl), ixf, am_nm_k h123 ?_⟩
  rintro _ rfl _ _
  refine ⟨(am_kk hB rfl), 112, (am_rf hB rfl), _, (am_kk hB rfl), ixc, am_nm_k m2 ?_⟩
  rintro _ rfl _ _
  refine ⟨fun h => b142 I 0 (Or.inl rfl) rf_refl h8 h33' hlz.1 rfl h7 (fun _ _ _ => rfl) (fun I' col' f1 a7 a8 a9 aS a4 a5 aL aK aA => ok h I' col' f1 (by rw [a7]; omega) hl a8 aS a4 a5 aL aK aA) _, fun h => ⟨(am_kk hB rfl), m_mispl hB hT h7 hqc h8 ⟨rfl, b142 _ 1 (Or.inr rfl) (rf_ut (rf_ut rf_refl (rf_101 (by omega))) (rf_101 (by omega))) ?_ ?_ ?_ ?_ ?_ (fun a j ha => by rw [am_u_ne ha, am_u_ne ha]) (fun I' col' f1 a7 a8 a9 aS a4 a5 aL aK aA => bad h I' col' ⟨f1, a8, ?_, ?_, ?_⟩) _⟩⟩⟩
  · rw [am_u_kn (by decide)]; exact am_u_kk
  · rw [am_u_kn (by decide), am_u_kn (by decide)]; exact h33'
  · rw [am_u_kn (by decide), am_u_kn (by decide)]; exact hlz.1
  · rw [am_u_kn (by decide), am_u_kn (by decide)]
  · rw [am_u_kn (by decide), am_u_kn (by decide)]; exact h7
  · rw [a9]; exact am_u_kk
  · rw [a7]; omega
  · rw [a7]; omega
end MPQ
