/-! SEARCH: the reference's search, whole -/
section MSO
variable {d n : Nat} {C : Nat → am_K} {J : Nat → Nat → Int} {R : Nat → Nat → Option Nat} {A : Nat → List (Nat × Int)} {g : Nat → Bool} {s nr ah : Nat} {K0 : Nat → Int} {I0 F : Nat → Nat → Int} {r N m : Nat} {Q : am_Q}
theorem SD_all (hB : am_B C R) (hA : aOk (ak A) nr (twf F r) (vdf m)) (hO : ∀ ρ : Nat, ρ < nr → aOrd [] (ak A ρ)) (hV : ∀ ρ : Nat, ρ < nr → ∀ x ∈ ak A ρ, x.2 ≤ 1099) (hE : sE A g s nr ah K0 I0) (hC : cE F r s N m I0) : ∀ f : Nat, SDp d n C J R A g nr ah I0 F r m Q f := by
  have hE1 := hE
  obtain ⟨e1, e2, e3, e4, -, e6, -⟩ := hE1
  have cm : m ≤ 36 := hC.2.1
  intro f
  induction f with
  | zero =>
    intro K h I k1 k2 k3 hh a1 a2 a3 sc fl
    have hEI := sE_fr hE a1 a2
    refine s_M_search_7 ⟨fun h => absurd h (by decide), fun _ => ⟨(am_kk hB rfl), m_firstLeft hB hEI (fun ρ hF => ⟨_, rfl, s_M_search_15 ⟨fun _ => ⟨(am_kk hB rfl), m_firstOpen hB hEI hF.1 (fun k p w _ _ _ _ hf => ?_) (fun hf => ⟨_, rfl, s_M_search_27 ⟨fun _ => ?_, fun h => absurd h (by decide)⟩⟩)⟩, fun h => absurd h (by omega)⟩⟩) (fun hn => ⟨_, rfl, s_M_search_15 ⟨fun h => absurd h (by decide), fun _ => ⟨Or.inr rfl, sc I K a1 a2 (Sem_none k1 k2 hn) ⟨hn, rfl⟩⟩⟩⟩)⟩⟩
    · exfalso
      obtain ⟨m1, m2, m3⟩ := fo_at hF (hO ρ hF.1) hf
      have := opn_ku (v := 0) hF.1 m1 m2 (by decide)
      omega
    · refine am_WP.forget (s_M_search_134 (fl I a1 a2 a3 (fun _ _ _ _ => rfl) (Sem_find hF hf))) _ (am_le_eq (am_le_eq (am_le_o (am_le_o (am_le_o (am_le_o (am_le_o am_le_nil)))))))
  | succ f ih =>
    intro K h I k1 k2 k3 hh a1 a2 a3 sc fl
    have hEI := sE_fr hE a1 a2
    refine s_M_search_7 ⟨fun h => absurd h (by decide), fun _ => ⟨(am_kk hB rfl), m_firstLeft hB hEI (fun ρ hF => ⟨_, rfl, s_M_search_15 ⟨fun _ => ⟨(am_kk hB rfl), m_firstOpen hB hEI hF.1 (fun k p w k36 i120 i121 p2 hf => ⟨_, rfl, s_M_search_27 ⟨fun h => absurd h (by omega), fun _ => ?_⟩⟩) (fun hf => ⟨_, rfl, s_M_search_27 ⟨fun _ => ?_, fun h => absurd h (by decide)⟩⟩)⟩, fun h => absurd h (by omega)⟩⟩) (fun hn => ⟨_, rfl, s_M_search_15 ⟨fun h => absurd h (by decide), fun _ => ⟨Or.inr rfl, sc I K a1 a2 (Sem_none k1 k2 hn) (Or.inl ⟨hn, rfl⟩)⟩⟩⟩)⟩⟩
    · obtain ⟨m1, m2, m3⟩ := fo_at hF (hO ρ hF.1) hf
      have hS : opS A g nr ah F r m K ρ p w := ⟨k1, k2, hF, hf, m1, m2, m3, p2⟩
      have wv := (hA.1 ρ hF.1 _ m1).2.1
      have wv : vdf m w := wv
      have w9 := hV ρ hF.1 _ m1
      have w9 : w ≤ 1099 := w9
      refine ⟨(am_kk hB rfl), 130, (am_rf hB rfl), (am_kk hB rfl), am_nm_k a3 ?_⟩
      rintro _ rfl _ _
      refine ⟨(am_kk hB rfl), 120, (am_rf hB rfl), _, (am_kk hB rfl), ⟨by omega, by omega⟩, am_nm_k i120 ?_⟩
      rintro _ rfl _ _
      refine ⟨_, by decide, (am_kk hB rfl), ⟨by omega, by omega⟩, (am_kk hB rfl), 121, (am_rf hB rfl), _, (am_kk hB rfl), ⟨by omega, by omega⟩, am_nm_k ((am_u_ne (by decide)).trans i121) (fun z hz _ _ => ?_)⟩
      rw [hz]
      refine ⟨(am_kk hB rfl), 133, (am_rf hB rfl), (am_kk hB rfl), am_nm_k ((am_u_ne (by decide)).trans a3) ?_⟩
      rintro _ rfl _ _
      have push : ∀ (b y0 : Int), (b = 0 ∨ b = 1) → ∀ I5 : Nat → Nat → Int, I5 = am_u (am_u (am_u (am_u (am_u I 130 h (p : Int)) 133 h b) 134 h 0) 131 h y0) 101 47 ((h + 1 : Nat) : Int) → PS I0 I h p K y0 b 0 I5 := by
        intro b y0 _ I5 e
        subst e
        refine ⟨sr_u (sr_u (sr_u (sr_u (sr_u a1 (by unfold sr_ch; omega)) (by unfold sr_ch; omega)) (by unfold sr_ch; omega)) (by unfold sr_ch; omega)) (by unfold sr_ch; omega), fun q hq => ?_, am_u_kk, ?_, ?_, ?_, ?_, ?_⟩
        · rw [am_u_ne (by decide), am_u_ne (by decide), am_u_ne (by decide), am_u_ne (by decide), am_u_ne (by decide)]; exact a2 q hq
        · rw [am_u_ne (by decide), am_u_ne (by decide), am_u_ne (by decide), am_u_ne (by decide), am_u_kk]
        · rw [am_u_ne (by decide), am_u_kk]
        · rw [am_u_ne (by decide), am_u_ne (by decide), am_u_ne (by decide), am_u_kk]
        · rw [am_u_ne (by decide), am_u_ne (by decide), am_u_kk]
        · exact skp_u (skp_u (skp_u (skp_u (skp_u (fun _ _ _ _ => rfl) (Or.inl (Nat.le_refl _))) (Or.inl (Nat.le_refl _))) (Or.inl (Nat.le_refl _))) (Or.inl (Nat.le_refl _))) (Or.inr (by unfold sk; omega))
      have h47 : ∀ (b : Int), am_u (am_u (am_u I 130 h (p : Int)) 133 h b) 134 h 0 101 47 = (h : Int) := by
        intro b
        rw [am_u_ne (by decide), am_u_ne (by decide), am_u_ne (by decide)]; exact a3
      refine ⟨fun hw => ?_, fun hw => ?_⟩
      · -- a constructor
        obtain ⟨cw, rfl⟩ : ∃ cw : Nat, w = (cw : Int) := ⟨w.toNat, by unfold vdf at wv; omega⟩
        have cwm : cw < m := by unfold vdf at wv; omega
        have hC1 := hC
        obtain ⟨c1, c2, c3, c4, c5, c6, c7⟩ := hC1
        obtain ⟨T, t1, t2, t3⟩ := c4 cw cwm
        obtain ⟨fc, kc, t4, t5, t6, t7, t8, t9, -⟩ := c7 T t1
        have L25 := c5 T t1
        refine s_M_search_75 ⟨_, by decide, Or.inl ⟨(am_kk hB rfl), Or.inl rfl⟩, ⟨by omega, by omega⟩, (am_kk hB rfl), 134, (am_rf hB rfl), (am_kk hB rfl), am_nm_k (show am_u (am_u I 130 h (p : Int)) 133 h 0 101 47 = (h : Int) by rw [am_u_ne (by decide), am_u_ne (by decide)]; exact a3) ?_⟩
        rintro _ rfl _ _
        refine ⟨_, by decide, Or.inl ⟨(am_kk hB rfl), Or.inl rfl⟩, ⟨by omega, by omega⟩, (am_kk hB rfl), 131, (am_rf hB rfl), (am_kk hB rfl), am_nm_k (h47 0) ?_⟩
        rintro _ rfl _ _
        refine ⟨fun _ => ⟨(am_kk hB rfl), 111, (am_rf hB rfl), (am_kk hB rfl), am_nm_k (show am_u (am_u (am_u I 130 h (p : Int)) 133 h 0) 134 h 0 101 14 = (s : Int) by rw [am_u_ne (by decide), am_u_ne (by decide), am_u_ne (by decide)]; exact hEI.1) ?_⟩, fun h => absurd h (by omega)⟩
        rintro _ rfl _ _
        refine am_ar_i (by omega) (by omega) (am_ar_i (by omega) (by omega) ?_)
        rw [show (36 : Int) * (s : Int) + (cw : Int) = ((36 * s + cw : Nat) : Int) by omega]
        refine ⟨_, (am_kk hB rfl), ⟨by omega, by omega⟩, am_nm_k (show am_u (am_u (am_u I 130 h (p : Int)) 133 h 0) 134 h 0 111 (36 * s + cw) = F (r + 9) T by rw [am_u_ne (by decide), am_u_ne (by decide), am_u_ne (by decide)]; exact (sr_n a1 (by omega) (by omega) (by omega)).trans t3) (fun z hz _ _ => am_ar_i (by omega) (by omega) ?_)⟩
        subst hz
        refine s_M_search_123 ⟨_, by decide, (am_kk hB rfl), ⟨by omega, by omega⟩, (am_kk hB rfl), am_nm_k (show am_u (am_u (am_u (am_u I 130 h (p : Int)) 133 h 0) 134 h 0) 131 h (F (r + 9) T - 100) 101 47 = (h : Int) by rw [am_u_ne (by decide)]; exact h47 0) ?_⟩
        rintro _ rfl _ _
        refine am_ar_i (by omega) (by omega) ⟨⟨by decide, (am_kk hB rfl)⟩, ?_⟩
        have hP := push 0 (F (r + 9) T - 100) (Or.inl rfl) _ rfl
        revert hP
        show PS I0 I h p K (F (r + 9) T - 100) 0 0 (am_u (am_u (am_u (am_u (am_u I 130 h (p : Int)) 133 h 0) 134 h 0) 131 h (F (r + 9) T - 100)) 101 47 ((h + 1 : Nat) : Int)) → am_WP (d + 3) (67, 134, [.inr (.inl 101), .inl 1, .inl ((12 * s + ρ : Nat) : Int), .inl (k : Int), .inl (cw : Int), am_o, am_o], [], (0, 0), n, C, am_u (am_u (am_u (am_u (am_u I 130 h (p : Int)) 133 h 0) 134 h 0) 131 h (F (r + 9) T - 100)) 101 47 ((h + 1 : Nat) : Int), J, R) Q
        generalize am_u (am_u (am_u (am_u (am_u I 130 h (p : Int)) 133 h 0) 134 h 0) 131 h (F (r + 9) T - 100)) 101 47 ((h + 1 : Nat) : Int) = I5
        intro hP
        refine am_WP.forget (s_M_search_134 ?_) _ (am_le_eq (am_le_eq (am_le_o (am_le_o (am_le_o (am_le_o (am_le_o am_le_nil)))))))
        refine m_again (s := s) hB hP (fun _ _ => rfl) m2 (by omega) p2 e1 e2 (Or.inl rfl) (fun _ hy => absurd hy (by omega)) (fun _ _ I6 hP6 => ⟨by omega, ?_⟩) (fun hb => absurd hb (by decide))
        have hE6 := sE_fr hE hP6.1 hP6.2.1
        have hC6 := cE_fr hC hP6.1
        rw [show F (r + 9) T - 100 + 100 = F (r + 9) T by omega]
        refine m_firstCon hB hE6.1 e2 hC6 t1 t4 ⟨_, rfl, s_M_search_221 ⟨(am_kk hB rfl), m_nextCon hB hE6 hC6 t1 t4 t5 (Nat.le_refl _) (by omega) (by omega) (Or.inl hP6.2.2.2.2.2.2.1) (fun y I7 hN => ⟨y, rfl, s_M_search_224 ?_⟩)⟩⟩
        exact m_conLoop hB hA hE hC ih hS k3 hh t1 (by omega) t2 t4 t5 sc fl kc fc 0 _ _ y I6 I7 (by omega) (Nat.le_refl _) (by omega) hP6 (Or.inl rfl) (fun c' q1 q2 => absurd q1 (by omega)) (fun h => absurd rfl h) hN
      · -- a number
        refine s_M_search_75 ⟨_, by decide, Or.inl ⟨(am_kk hB rfl), Or.inr rfl⟩, ⟨by omega, by omega⟩, (am_kk hB rfl), 134, (am_rf hB rfl), (am_kk hB rfl), am_nm_k (show am_u (am_u I 130 h (p : Int)) 133 h 1 101 47 = (h : Int) by rw [am_u_ne (by decide), am_u_ne (by decide)]; exact a3) ?_⟩
        rintro _ rfl _ _
        refine ⟨_, by decide, Or.inl ⟨(am_kk hB rfl), Or.inl rfl⟩, ⟨by omega, by omega⟩, (am_kk hB rfl), 131, (am_rf hB rfl), (am_kk hB rfl), am_nm_k (h47 1) ?_⟩
        rintro _ rfl _ _
        refine ⟨fun h => absurd h (by omega), fun _ => ?_⟩
        refine s_M_search_123 ⟨_, by decide, (am_kk hB rfl), ⟨by omega, by omega⟩, (am_kk hB rfl), am_nm_k (show am_u (am_u (am_u (am_u I 130 h (p : Int)) 133 h 1) 134 h 0) 131 h (-1) 101 47 = (h : Int) by rw [am_u_ne (by decide)]; exact h47 1) ?_⟩
        rintro _ rfl _ _
        refine am_ar_i (by omega) (by omega) ⟨⟨by decide, (am_kk hB rfl)⟩, ?_⟩
        have hP := push 1 (-1) (Or.inr rfl) _ rfl
        revert hP
        show PS I0 I h p K (-1) 1 0 (am_u (am_u (am_u (am_u (am_u I 130 h (p : Int)) 133 h 1) 134 h 0) 131 h (-1)) 101 47 ((h + 1 : Nat) : Int)) → am_WP (d + 3) (67, 134, [.inr (.inl 101), .inl 1, .inl ((12 * s + ρ : Nat) : Int), .inl (k : Int), .inl w, am_o, am_o], [], (0, 0), n, C, am_u (am_u (am_u (am_u (am_u I 130 h (p : Int)) 133 h 1) 134 h 0) 131 h (-1)) 101 47 ((h + 1 : Nat) : Int), J, R) Q
        generalize am_u (am_u (am_u (am_u (am_u I 130 h (p : Int)) 133 h 1) 134 h 0) 131 h (-1)) 101 47 ((h + 1 : Nat) : Int) = I5
        intro hP
        refine am_WP.forget (s_M_search_134 ?_) _ (am_le_eq (am_le_eq (am_le_o (am_le_o (am_le_o (am_le_o (am_le_o am_le_nil)))))))
        refine m_again (s := s) hB hP (fun _ _ => rfl) m2 (by omega) p2 e1 e2 (Or.inr rfl) (fun hb => absurd hb (by decide)) (fun hb => absurd hb (by decide)) (fun _ I6 hP6 => ?_)
        have hE6 := sE_fr hE hP6.1 hP6.2.1
        obtain ⟨n0, b1, b2⟩ := unw (S := Sg g ah) hA p K 100
        refine m_nextNumber hB hE6 (by omega) (by omega) ⟨n0, by omega, b2⟩ (fun y2 hN2 => ⟨y2, rfl, s_M_search_195 ?_⟩)
        exact m_numLoop hB hA hV hE hC ih hS k3 hh hw sc fl 1001 (-1) 0 _ _ y2 I6 (by omega) (by omega) hP6 (fun n' q1 q2 => absurd q1 (by omega)) (fun h => absurd h (by omega)) hN2
    · refine am_WP.forget (s_M_search_134 (fl I a1 a2 a3 (fun _ _ _ _ => rfl) (Sem_find hF hf))) _ (am_le_eq (am_le_eq (am_le_o (am_le_o (am_le_o (am_le_o (am_le_o am_le_nil)))))))
theorem m_search {K : Nat → Int} {f : Nat} {I : Nat → Nat → Int} (hB : am_B C R) (hA : aOk (ak A) nr (twf F r) (vdf m)) (hO : ∀ ρ : Nat, ρ < nr → aOrd [] (ak A ρ)) (hV : ∀ ρ : Nat, ρ < nr → ∀ x ∈ ak A ρ, x.2 ≤ 1099) (hE : sE A g s nr ah K I) (hC : cE F r s N m I) (k1 : clo K) (k2 : typ (ak A) nr (twf F r) (vdf m) K) (k3 : opn (ak A) nr K ≤ f) (f2 : f ≤ 200) (yes : ∀ (I' : Nat → Nat → Int) (K' : Nat → Int), sr_fr I I' → (∀ q : Nat, q < 65536 → I' 128 q = K' q) → Sem (ak A) nr (twf F r) (vdf m) (Sg g ah) K → Fst (ak A) nr (twf F r) (vdf m) (Sg g ah) f K K' → Q (some (.inl 1)) (n, C, I', J, R)) (no : ∀ I' : Nat → Nat → Int, sr_fr I I' → ¬ Sem (ak A) nr (twf F r) (vdf m) (Sg g ah) K → Q (some (.inl 0)) (n, C, I', J, R)) : am_WP (d + 3) (am_entry 67 [.inr (.inl 101)] (n, C, I, J, R)) Q := by
  refine e_M_search ⟨⟨by decide, (am_kk hB rfl)⟩, ?_⟩
  refine SD_all (d := d) (n := n) (J := J) (Q := Q) hB hA hO hV hE hC f K 0 _ k1 k2 k3 (by omega) (sr_u (fun _ _ _ => rfl) (Or.inl ⟨rfl, rfl⟩)) (fun q hq => (am_u_ne (by decide)).trans (hE.2.2.2.2.2.2 q hq)) am_u_kk yes (fun I' a1 a2 a3 _ hs => ?_)
  refine s_M_search_136 ⟨(am_kk hB rfl), am_nm_k a3 ?_⟩
  rintro _ rfl _ _
  exact ⟨fun _ => ⟨fun h => absurd rfl h, fun _ => ⟨Or.inl rfl, no I' a1 hs⟩⟩, fun h => absurd h (by decide)⟩
end MSO
