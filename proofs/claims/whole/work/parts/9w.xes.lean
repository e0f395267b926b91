/-! SEARCH: whether the class can escape -/
theorem am_u_back {f : Nat → Nat → Int} {a k : Nat} {v u : Int} (h : f a k = u) : am_u (am_u f a k v) a k u = f := by
  funext b j
  by_cases e : b = a ∧ j = k
  · obtain ⟨rfl, rfl⟩ := e; rw [am_u_kk, h]
  · rw [am_u_off e, am_u_off e]
section XES
variable {n0 : Nat} {C : Nat → am_K} {F J : Nat → Nat → Int} {R : Nat → Nat → Option Nat} {a : Nat → List (Nat × Int)} {bg : Nat → Nat} {ns cnt nr r N m : Nat} {S : Nat → Prop}
theorem tyX_of {cw : Nat} {Ic : Nat → Nat → Int} {s : Nat} (hC : cE F r s N m Ic) (h : cw < m) : ∃ T fc kc : Nat, F (r + 5) cw = (T : Int) ∧ tyX F r N m T fc kc ∧ fc ≤ cw ∧ cw < fc + kc := by
  obtain ⟨c1, c2, c3, c4, c5, c6, c7⟩ := hC
  obtain ⟨T, t1, t2, -⟩ := c4 cw h
  obtain ⟨fc, kc, g1, g2, g3, g4, g5, g6, -⟩ := c7 T t1
  have := (g6 cw h).mp t2
  exact ⟨T, fc, kc, t2, ⟨t1, c1, g1, g2, g4, g3, g5, c2, fun c h1 h2 => (g6 c (by omega)).mpr ⟨h1, h2⟩⟩, this.1, this.2⟩
/-- a constructor no row wants is as good as any -/
theorem Sem_con {K : Nat → Int} {ρ p cw c T fc kc s : Nat} {Ic : Nat → Nat → Int} (hA : aOk a nr (twf F r) (vdf m)) (hC : cE F r s N m Ic) (hO : opX F a nr r m S K ρ p (cw : Int)) (hcT : F (r + 5) cw = (T : Int)) (hT : tyX F r N m T fc kc) (h1 : fc ≤ c) (h2 : c < fc + kc) (hcw : cw < m) (hn : ¬ wnd a nr S K p (c : Int)) (h : Sem a nr (twf F r) (vdf m) S K) : Sem a nr (twf F r) (vdf m) S (ku K p (c : Int)) := by
  obtain ⟨k1, k2, k3, k4, k5, k6, k7⟩ := hO
  have m36 : m ≤ 36 := hC.2.1
  obtain ⟨v, v1, v2, v3⟩ := Sem_step hA k3.1 k5 k6 k7 h
  obtain ⟨g1, g2, g3, g4⟩ := con_vd hC hT.1 hT.2.2.1 hT.2.2.2.1 h1 h2
  exact Sem_un hA k1 k3.1 k5 k6 k7 g3 (by rw [g4, twf_con (by omega) hcT]) (fun ρ' q1 q2 q3 q4 => hn ⟨ρ', q1, q2, q3, q4⟩) (hA.2.2.2 v v1) v3
theorem Sem_num {K : Nat → Int} {ρ p : Nat} {w v : Int} (hA : aOk a nr (twf F r) (vdf m)) (hO : opX F a nr r m S K ρ p w) (hw : 100 ≤ w) (hv : 100 ≤ v) (hn : ¬ wnd a nr S K p v) (h : Sem a nr (twf F r) (vdf m) S K) : Sem a nr (twf F r) (vdf m) S (ku K p v) := by
  obtain ⟨k1, k2, k3, k4, k5, k6, k7⟩ := hO
  obtain ⟨v', v1, v2, v3⟩ := Sem_step hA k3.1 k5 k6 k7 h
  exact Sem_un hA k1 k3.1 k5 k6 k7 (Or.inr hv) (by rw [twf_num hv, twf_num hw]) (fun ρ' q1 q2 q3 q4 => hn ⟨ρ', q1, q2, q3, q4⟩) (hA.2.2.2 v' v1) v3
theorem Sem_cons {K : Nat → Int} {ρ p cw T fc kc s : Nat} {Ic : Nat → Nat → Int} (hA : aOk a nr (twf F r) (vdf m)) (hC : cE F r s N m Ic) (hO : opX F a nr r m S K ρ p (cw : Int)) (hcT : F (r + 5) cw = (T : Int)) (hT : tyX F r N m T fc kc) (hcw : cw < m) (hno : ∀ c : Nat, fc ≤ c → c < fc + kc → ¬ Sem a nr (twf F r) (vdf m) S (ku K p (c : Int))) : ¬ Sem a nr (twf F r) (vdf m) S K := by
  intro h
  obtain ⟨k1, k2, k3, k4, k5, k6, k7⟩ := hO
  have m36 : m ≤ 36 := hC.2.1
  obtain ⟨v, v1, v2, v3⟩ := Sem_step hA k3.1 k5 k6 k7 h
  obtain ⟨c, rfl, w1, w2⟩ := vd_con hC hT.1 hT.2.2.1 hT.2.2.2.1 v1 (by rw [v2, twf_con (by omega) hcT])
  exact hno c w1 w2 v3
def XEp (n0 : Nat) (C : Nat → am_K) (F J : Nat → Nat → Int) (R : Nat → Nat → Option Nat) (a : Nat → List (Nat × Int)) (ns nr r m : Nat) (S : Nat → Prop) (f : Nat) : Prop := ∀ (K : Nat → Int) (q : Nat → Bool) (D dep : Nat) (I : Nat → Nat → Int) (Q : am_Q), clo K → typ a nr (twf F r) (vdf m) K → opn a nr K ≤ f → dep + f ≤ 60 → f + 4 ≤ D → stK F ns K I → rwq a nr S K q → (Sem a nr (twf F r) (vdf m) S K → Q (some (.inl 1)) (n0, C, I, J, R)) → (¬ Sem a nr (twf F r) (vdf m) S K → Q (some (.inl 0)) (n0, C, I, J, R)) → am_WP D (am_entry 122 [.inr (.inl 31), .inr (.inl (r + 1)), .inl ((mk q 12 : Nat) : Int), .inl (dep : Int)] (n0, C, I, J, R)) Q
theorem nol_of {K : Nat → Int} {q : Nat → Bool} (nr12 : nr ≤ 12) (hq : rwq a nr S K q) (h : mk q 12 = 0) : nol a nr S K := by
  rcases mk_low (q := q) 12 with ⟨h1, h2⟩ | ⟨ρ, k, h1, h2, h3, h4⟩
  · intro ρ hρ hS hl
    have := (hq ρ (by omega)).mpr ⟨hρ, hS, hl⟩
    rw [h2 ρ (by omega)] at this
    exact absurd this (by simp)
  · have : 0 < 2 ^ ρ := Nat.pow_pos (by decide)
    omega
theorem not_nol {K : Nat → Int} {q : Nat → Bool} (hq : rwq a nr S K q) (h : mk q 12 ≠ 0) : ∃ ρ : Nat, isF a nr S K ρ := by
  rcases mk_low (q := q) 12 with ⟨h1, h2⟩ | ⟨ρ, k, h1, h2, h3, h4⟩
  · exact absurd h1 h
  · obtain ⟨f1, f2, f3⟩ := (hq ρ h1).mp h2
    refine ⟨ρ, f1, f2, f3, fun ρ' h' hS hl => ?_⟩
    have := (hq ρ' (by omega)).mpr ⟨by omega, hS, hl⟩
    rw [h3 ρ' h'] at this
    exact absurd this (by simp)
theorem XE_all (hB : am_B C R) (hr : r = 41 ∨ r = 71) (hX : xE F a bg ns cnt nr r N m) : ∀ f : Nat, XEp n0 C F J R a ns nr r m S f := by
  obtain ⟨Ic, hC⟩ := hX.2.2.2.1
  have hA := hX.2.2.2.2.1
  have hOr := hX.2.2.2.2.2.1
  have nr12 := hX.2.2.1
  have m36 : m ≤ 36 := hC.2.1
  have ns60 : ns ≤ 60 := by have := hX.1.2.2.1; have := hX.1.2.2.2.1; omega
  intro f
  induction f with
  | zero =>
    intro K q D dep I Q k1 k2 k3 hd hD hI hq yes no
    obtain ⟨d, rfl⟩ : ∃ d, D = d + 4 := ⟨D - 4, by omega⟩
    have stuck : ∀ ρ : Nat, isF a nr S K ρ → ¬ Sem a nr (twf F r) (vdf m) S K := by
      intro ρ hF
      refine Sem_find hF ?_
      rcases hf : fo K (a ρ) with _ | ⟨p, w⟩
      · rfl
      · exfalso
        obtain ⟨m1, m2, -⟩ := fo_at hF (hOr ρ hF.1) hf
        have := opn_ku (v := 0) hF.1 m1 m2 (by decide)
        omega
    refine e_Search_escapes ⟨fun hne => ?_, fun h0 => ⟨Or.inr rfl, yes (Sem_none k1 k2 (nol_of nr12 hq (by omega)))⟩⟩
    obtain ⟨ρ, hF⟩ := not_nol hq (by omega)
    have fin : am_WP (d + 4) (122, 21, [.inr (.inl 31), .inr (.inl (r + 1)), .inl ((mk q 12 : Nat) : Int), .inl (dep : Int), am_o, am_o, am_o, am_o, am_o, am_o], [.inl (-1)], (0, 0), n0, C, I, J, R) Q := s_Search_escapes_21 ⟨fun h => absurd rfl h, fun _ => ⟨Or.inl rfl, no (stuck ρ hF)⟩⟩
    refine ⟨fun _ => fin, fun _ => ⟨(am_kk hB rfl), x_openAsk hB hX hI hq (fun ρ' k i p w hF' hf _ _ _ _ _ => ?_) (fun _ _ _ => ⟨_, rfl, s_Search_escapes_17 fin⟩) (fun hn => absurd hF.2.2.1 (hn ρ hF.1 hF.2.1))⟩⟩
    exfalso
    obtain ⟨m1, m2, -⟩ := fo_at hF' (hOr ρ' hF'.1) hf
    have := opn_ku (v := 0) hF'.1 m1 m2 (by decide)
    omega
  | succ f ih =>
    intro K q D dep I Q k1 k2 k3 hd hD hI hq yes no
    obtain ⟨d, rfl⟩ : ∃ d, D = d + 5 := ⟨D - 5, by omega⟩
    refine e_Search_escapes ⟨fun hne => ⟨fun h => absurd h (by omega), fun _ => ⟨(am_kk hB rfl), x_openAsk hB hX hI hq (fun ρ k i p w hF hf h60 hi h36 hp h37 => ⟨_, rfl, s_Search_escapes_17 (s_Search_escapes_21 ⟨fun _ => ⟨(am_kk hB rfl), 34, (am_rf hB rfl), (am_kk hB rfl), 36, (am_rf hB rfl), _, (am_kk hB rfl), ⟨by omega, by omega⟩, am_nm_k h36 ?_⟩, fun h => absurd h (by omega)⟩)⟩) (fun ρ hF hf => ⟨_, rfl, s_Search_escapes_17 (s_Search_escapes_21 ⟨fun h => absurd rfl h, fun _ => ⟨Or.inl rfl, no (Sem_find hF hf)⟩⟩)⟩) (fun hn => ?_)⟩⟩, fun h0 => ⟨Or.inr rfl, yes (Sem_none k1 k2 (nol_of nr12 hq (by omega)))⟩⟩
    · rintro _ rfl _ _
      obtain ⟨m1, m2, m3⟩ := fo_at hF (hOr ρ hF.1) hf
      have hO : opX F a nr r m S K ρ p w := ⟨k1, k2, hF, hf, m1, m2, m3⟩
      have hs : asX F I ns k i p w := ⟨h60, hi, h36, hp, h37⟩
      have i40 : I 40 i = -1 := by rw [hI.2 i p hi hp, m2]; rfl
      have wv := (hA.1 ρ hF.1 _ m1).2.1
      have wv : vdf m w := wv
      -- one answer is tried
      have try1 : ∀ (v x6 : Int) (x9 : Nat) (I1 : Nat → Nat → Int), vdf m v → twf F r v = twf F r w → x9 < 6 → stKx F ns K i I1 → am_u I1 40 i (-1) = I → (∀ (b : Int) (I2 : Nat → Nat → Int), stKx F ns K i I2 → am_u I2 40 i (-1) = I → (b = 1 ∧ Sem a nr (twf F r) (vdf m) S (ku K p v) ∨ b = 0 ∧ ¬ Sem a nr (twf F r) (vdf m) S (ku K p v)) → am_WP (d + 5) (122, 115, [.inr (.inl 31), .inr (.inl (r + 1)), .inl ((mk q 12 : Nat) : Int), .inl (dep : Int), .inl (k : Int), .inl (i : Int), .inl x6, .inl (ec v), .inl 0, .inl (x9 : Int)], [.inl b], (0, 0), n0, C, I2, J, R) Q) → am_WP (d + 5) (122, 80, [.inr (.inl 31), .inr (.inl (r + 1)), .inl ((mk q 12 : Nat) : Int), .inl (dep : Int), .inl (k : Int), .inl (i : Int), .inl x6, .inl (ec v), .inl 0, .inl (x9 : Int)], [], (0, 0), n0, C, I1, J, R) Q := by
        intro v x6 x9 I1 hv htw h9 hI1 hback go
        have hv1 := hA.2.2.2 v hv
        have nn := ec_nn hv
        obtain ⟨c1, c2⟩ := ct_ku hA k1 k2 hF.1 m1 m2 m3 hv htw
        have hlt := opn_ku (a := a) hF.1 m1 m2 hv1
        refine s_Search_escapes_80 ⟨fun h => absurd h (by omega), fun _ => ⟨fun h => absurd h (by omega), fun _ => ⟨fun h => absurd rfl h, fun _ => ⟨(am_kk hB rfl), x_settle hB hX hI1 hq hi hp hv (Or.inl m2) (fun q' hq' hst => ⟨_, rfl, s_Search_escapes_109 (am_ar_i (by omega) (by omega) ⟨(am_kk hB rfl), ?_⟩)⟩)⟩⟩⟩⟩
        have hst' : stKx F ns K i (am_u I1 40 i (ec v)) := by
          refine ⟨hst.1, fun j pj hj hne hpj => ?_⟩
          rw [am_u_kn hne]; exact hI1.2 j pj hj hne hpj
        have hb' : am_u (am_u I1 40 i (ec v)) 40 i (-1) = I := by
          rw [← hback]
          funext x j
          by_cases e : x = 40 ∧ j = i
          · obtain ⟨rfl, rfl⟩ := e; rw [am_u_kk, am_u_kk]
          · rw [am_u_off e, am_u_off e, am_u_off e]
        exact ih (ku K p v) q' (d + 4) (dep + 1) _ _ c1 c2 (by omega) (by omega) (by omega) hst hq' (fun hS => ⟨_, rfl, go 1 _ hst' hb' (Or.inl ⟨rfl, hS⟩)⟩) (fun hS => ⟨_, rfl, go 0 _ hst' hb' (Or.inr ⟨rfl, hS⟩)⟩)
      have leave : ∀ (x6 x7 b : Int) (x9 : Int) (I1 : Nat → Nat → Int), am_u I1 40 i (-1) = I → (b = 1 ∧ Sem a nr (twf F r) (vdf m) S K ∨ b = 0 ∧ ¬ Sem a nr (twf F r) (vdf m) S K) → am_WP (d + 5) (122, 145, [.inr (.inl 31), .inr (.inl (r + 1)), .inl ((mk q 12 : Nat) : Int), .inl (dep : Int), .inl (k : Int), .inl (i : Int), .inl x6, .inl x7, .inl b, .inl x9], [], (0, 0), n0, C, I1, J, R) Q := by
        intro x6 x7 b x9 I1 hback hb
        refine s_Search_escapes_145 ⟨(am_kk hB rfl), 40, (am_rf hB rfl), _, by decide, (am_kk hB rfl), ⟨by omega, by omega⟩, by omega, ?_⟩
        show Q (some (.inl b)) (n0, C, am_u I1 40 i (-1), J, R)
        rw [hback]
        rcases hb with ⟨b1, b2⟩ | ⟨b1, b2⟩
        · rw [b1]; exact yes b2
        · rw [b1]; exact no b2
      have back0 : am_u I 40 i (-1) = I := by
        have := am_u_self (f := I) (a := 40) (k := i)
        rw [i40] at this
        exact this
      -- an answer that no row wants
      have single : ∀ v : Int, vdf m v → twf F r v = twf F r w → (Sem a nr (twf F r) (vdf m) S K → Sem a nr (twf F r) (vdf m) S (ku K p v)) → am_WP (d + 5) (122, 51, [.inr (.inl 31), .inr (.inl (r + 1)), .inl ((mk q 12 : Nat) : Int), .inl (dep : Int), .inl (k : Int), .inl (i : Int), am_o, am_o, am_o, am_o], [.inl (ec v)], (0, 0), n0, C, I, J, R) Q := by
        intro v hv htw himp
        have nn := ec_nn hv
        refine s_Search_escapes_51 ⟨fun _ => s_Search_escapes_72 (try1 v (ec v) 0 I hv htw (by omega) (stK_x hI) back0 (fun b I2 hI2 hback hb => s_Search_escapes_115 ⟨fun _ => s_Search_escapes_137 (am_ar_i (by omega) (by omega) ?_), fun h => absurd h (by omega)⟩)), fun h => absurd h (by omega)⟩
        have hb' : (b = 1 ∧ Sem a nr (twf F r) (vdf m) S K ∨ b = 0 ∧ ¬ Sem a nr (twf F r) (vdf m) S K) := by
          rcases hb with ⟨b1, b2⟩ | ⟨b1, b2⟩
          · exact Or.inl ⟨b1, Sem_up m2 b2⟩
          · exact Or.inr ⟨b1, fun h => b2 (himp h)⟩
        exact s_Search_escapes_80 ⟨fun h => absurd h (by decide), fun _ => ⟨fun _ => leave _ _ b _ I2 hback hb', fun h => absurd rfl h⟩⟩
      refine ⟨(am_kk hB rfl), ?_⟩
      rcases Int.lt_or_le w 100 with hw | hw
      · -- constructors
        obtain ⟨cw, rfl⟩ : ∃ cw : Nat, w = (cw : Int) := ⟨w.toNat, by unfold vdf at wv; omega⟩
        have cwm : cw < m := by unfold vdf at wv; omega
        obtain ⟨T, fc, kc, hcT, hT, c1, c2⟩ := tyX_of hC cwm
        have twc := twf_con (F := F) (r := r) (show cw < 36 by omega) hcT
        refine x_unwCon hB hr hX hI.1 hq hO hT c1 c2 hs (fun c g1 g2 g3 => ⟨_, rfl, ?_⟩) (fun hall => ⟨_, rfl, s_Search_escapes_51 ⟨fun h => absurd rfl h, fun _ => ⟨(am_kk hB rfl), x_firstCon' hB hr hI.1 hT c1 c2 hs ⟨_, rfl, s_Search_escapes_67 (s_Search_escapes_72 ?_)⟩⟩⟩⟩)
        · obtain ⟨u1, u2, u3, u4⟩ := con_vd hC hT.1 hT.2.2.1 hT.2.2.2.1 g1 g2
          have := single (c : Int) u3 (by rw [u4, twc]) (Sem_con hA hC hO hcT hT g1 g2 cwm g3)
          rw [show ec (c : Int) = (c : Int) from if_pos (by omega)] at this
          exact this
        · obtain ⟨t1, t2, t3, t4, t5, t6, t7, t8, t9⟩ := hT
          have hT : tyX F r N m T fc kc := ⟨t1, t2, t3, t4, t5, t6, t7, t8, t9⟩
          have loop : ∀ (u c : Nat) (I1 : Nat → Nat → Int), c + u + 1 = fc + kc → fc ≤ c → stKx F ns K i I1 → am_u I1 40 i (-1) = I → (∀ c' : Nat, fc ≤ c' → c' < c → ¬ Sem a nr (twf F r) (vdf m) S (ku K p (c' : Int))) → am_WP (d + 5) (122, 80, [.inr (.inl 31), .inr (.inl (r + 1)), .inl ((mk q 12 : Nat) : Int), .inl (dep : Int), .inl (k : Int), .inl (i : Int), .inl (-1), .inl (c : Int), .inl 0, .inl ((c - fc : Nat) : Int)], [], (0, 0), n0, C, I1, J, R) Q := by
            intro u
            induction u with
            | zero =>
              intro c I1 hu hfc hI1 hback hno
              obtain ⟨u1, u2, u3, u4⟩ := con_vd hC t1 t3 t4 hfc (show c < fc + kc by omega)
              have ecc : ec (c : Int) = (c : Int) := if_pos (by omega)
              have tr := try1 (c : Int) (-1) (c - fc) I1 u3 (by rw [u4, twc]) (by omega) hI1 hback
              rw [ecc] at tr
              refine tr (fun b I2 hI2 hback2 hb => s_Search_escapes_115 ⟨fun h => absurd rfl h, fun _ => ⟨(am_kk hB rfl), x_nextCon hB hr hI2.1 hT hfc (by omega) ⟨_, rfl, s_Search_escapes_133 (s_Search_escapes_137 (am_ar_i (by omega) (by omega) ?_))⟩⟩⟩)
              rw [if_neg (by omega)]
              have hb' : (b = 1 ∧ Sem a nr (twf F r) (vdf m) S K ∨ b = 0 ∧ ¬ Sem a nr (twf F r) (vdf m) S K) := by
                rcases hb with ⟨b1, b2⟩ | ⟨b1, b2⟩
                · exact Or.inl ⟨b1, Sem_up m2 b2⟩
                · refine Or.inr ⟨b1, Sem_cons hA hC hO hcT hT cwm (fun c' g1 g2 => ?_)⟩
                  by_cases e : c' = c
                  · rw [e]; exact b2
                  · exact hno c' g1 (by omega)
              exact s_Search_escapes_80 ⟨fun _ => leave _ _ b _ I2 hback2 hb', fun _ => ⟨fun _ => leave _ _ b _ I2 hback2 hb', fun h => absurd rfl h⟩⟩
            | succ u ihu =>
              intro c I1 hu hfc hI1 hback hno
              obtain ⟨u1, u2, u3, u4⟩ := con_vd hC t1 t3 t4 hfc (show c < fc + kc by omega)
              have ecc : ec (c : Int) = (c : Int) := if_pos (by omega)
              have tr := try1 (c : Int) (-1) (c - fc) I1 u3 (by rw [u4, twc]) (by omega) hI1 hback
              rw [ecc] at tr
              refine tr (fun b I2 hI2 hback2 hb => s_Search_escapes_115 ⟨fun h => absurd rfl h, fun _ => ⟨(am_kk hB rfl), x_nextCon hB hr hI2.1 hT hfc (by omega) ⟨_, rfl, s_Search_escapes_133 (s_Search_escapes_137 (am_ar_i (by omega) (by omega) ?_))⟩⟩⟩)
              rw [if_pos (by omega)]
              rcases hb with ⟨b1, b2⟩ | ⟨b1, b2⟩
              · have hb' : (b = 1 ∧ Sem a nr (twf F r) (vdf m) S K ∨ b = 0 ∧ ¬ Sem a nr (twf F r) (vdf m) S K) := Or.inl ⟨b1, Sem_up m2 b2⟩
                exact s_Search_escapes_80 ⟨fun _ => leave _ _ b _ I2 hback2 hb', fun _ => ⟨fun _ => leave _ _ b _ I2 hback2 hb', fun _ => ⟨fun _ => leave _ _ b _ I2 hback2 hb', fun h => absurd h (by omega)⟩⟩⟩
              · rw [b1]
                have go := ihu (c + 1) I2 (by omega) (by omega) hI2 hback2 (fun c' g1 g2 => by
                  by_cases e : c' = c
                  · rw [e]; exact b2
                  · exact hno c' g1 (by omega))
                rw [show ((c + 1 - fc : Nat) : Int) = ((c - fc : Nat) : Int) + 1 by omega] at go
                exact go
          have go := loop (kc - 1) fc I (by omega) (Nat.le_refl _) (stK_x hI) back0 (fun c' g1 g2 => absurd g1 (by omega))
          rw [Nat.sub_self] at go
          exact go
      · -- numbers
        refine x_unwNum hB hX hI.1 hq hO hw hs (fun v hv => ⟨_, rfl, ?_⟩)
        exact single v (Or.inr hv.1) (by rw [twf_num hv.1, twf_num hw]) (Sem_num hA hO hw hv.1 hv.2.2.1)
    · obtain ⟨ρ, hF⟩ := not_nol hq (by omega)
      exact absurd hF.2.2.1 (hn ρ hF.1 hF.2.1)
end XES
