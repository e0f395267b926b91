/-! SEARCH: the reference's search finds the first way -/
theorem twf_con {F : Nat → Nat → Int} {r c T : Nat} (hc : c < 36) (h : F (r + 5) c = (T : Int)) : twf F r (c : Int) = T := by
  unfold twf
  rw [if_pos (by omega)]
  show (F (r + 5) c).toNat = T
  rw [h]; rfl
theorem twf_num {F : Nat → Nat → Int} {r : Nat} {v : Int} (hv : 100 ≤ v) : twf F r v = 6 := if_neg (by omega)
theorem vd_con {F I : Nat → Nat → Int} {r s N m T fc kc : Nat} {v : Int} (hC : cE F r s N m I) (hT : T < N) (hf : F (r + 3) T = (fc : Int)) (hk : F (r + 4) T = (kc : Int)) (hv : vdf m v) (ht : twf F r v = T) : ∃ c : Nat, v = (c : Int) ∧ fc ≤ c ∧ c < fc + kc := by
  obtain ⟨c1, c2, c3, c4, c5, c6, c7⟩ := hC
  obtain ⟨fc', kc', t1, t2, t3, t4, t5, t6, -⟩ := c7 T hT
  have q1 : fc' = fc := by have := t1.symm.trans hf; omega
  have q2 : kc' = kc := by have := t2.symm.trans hk; omega
  subst q1
  subst q2
  rcases hv with ⟨v1, v2⟩ | v1
  · obtain ⟨c, rfl⟩ : ∃ c : Nat, v = (c : Int) := ⟨v.toNat, by omega⟩
    obtain ⟨T', g1, g2, g3⟩ := c4 c (by omega)
    rw [twf_con (by omega) g2] at ht
    subst ht
    exact ⟨c, rfl, (t6 c (by omega)).mp g2⟩
  · rw [twf_num v1] at ht; omega
theorem con_vd {F I : Nat → Nat → Int} {r s N m T fc kc c : Nat} (hC : cE F r s N m I) (hT : T < N) (hf : F (r + 3) T = (fc : Int)) (hk : F (r + 4) T = (kc : Int)) (h1 : fc ≤ c) (h2 : c < fc + kc) : c < m ∧ F (r + 5) c = (T : Int) ∧ vdf m (c : Int) ∧ twf F r (c : Int) = T := by
  obtain ⟨c1, c2, c3, c4, c5, c6, c7⟩ := hC
  obtain ⟨fc', kc', t1, t2, t3, t4, t5, t6, -⟩ := c7 T hT
  have q1 : fc' = fc := by have := t1.symm.trans hf; omega
  have q2 : kc' = kc := by have := t2.symm.trans hk; omega
  subst q1
  subst q2
  have := (t6 c (by omega)).mpr ⟨h1, h2⟩
  exact ⟨by omega, this, Or.inl ⟨by omega, by omega⟩, twf_con (by omega) this⟩
theorem num_6 {F I : Nat → Nat → Int} {r s N m : Nat} {v : Int} (hC : cE F r s N m I) (hv : vdf m v) (ht : twf F r v = 6) : 100 ≤ v := by
  rcases hv with ⟨v1, v2⟩ | v1
  · obtain ⟨c1, c2, c3, c4, c5, c6, c7⟩ := hC
    obtain ⟨c, rfl⟩ : ∃ c : Nat, v = (c : Int) := ⟨v.toNat, by omega⟩
    obtain ⟨T', g1, g2, g3⟩ := c4 c (by omega)
    rw [twf_con (by omega) g2] at ht
    omega
  · exact v1
section MSL
variable (d n : Nat) (C : Nat → am_K) (J : Nat → Nat → Int) (R : Nat → Nat → Option Nat) (A : Nat → List (Nat × Int)) (g : Nat → Bool) (s nr ah : Nat) (K0 : Nat → Int) (I0 F : Nat → Nat → Int) (r N m : Nat) (Q : am_Q)
def SDp (f : Nat) : Prop := ∀ (K : Nat → Int) (h : Nat) (I : Nat → Nat → Int), clo K → typ (ak A) nr (twf F r) (vdf m) K → opn (ak A) nr K ≤ f → h + f ≤ 200 → sr_fr I0 I → (∀ q : Nat, q < 65536 → I 128 q = K q) → I 101 47 = (h : Int) → (∀ (I' : Nat → Nat → Int) (K' : Nat → Int), sr_fr I0 I' → (∀ q : Nat, q < 65536 → I' 128 q = K' q) → Sem (ak A) nr (twf F r) (vdf m) (Sg g ah) K → Fst (ak A) nr (twf F r) (vdf m) (Sg g ah) f K K' → Q (some (.inl 1)) (n, C, I', J, R)) → (∀ I' : Nat → Nat → Int, sr_fr I0 I' → (∀ q : Nat, q < 65536 → I' 128 q = K q) → I' 101 47 = (h : Int) → skp h I I' → ¬ Sem (ak A) nr (twf F r) (vdf m) (Sg g ah) K → am_WP (d + 3) (67, 136, [.inr (.inl 101), .inl 1, .inl 0, am_o, am_o, am_o, am_o], [], (0, 0), n, C, I', J, R) Q) → am_WP (d + 3) (67, 7, [.inr (.inl 101), .inl 1, am_o, am_o, am_o, am_o, am_o], [], (0, 0), n, C, I, J, R) Q
/-- a place that the first row asks for is open -/
def opS (K : Nat → Int) (ρ p : Nat) (w : Int) : Prop := clo K ∧ typ (ak A) nr (twf F r) (vdf m) K ∧ isF (ak A) nr (Sg g ah) K ρ ∧ fo K (ak A ρ) = some (p, w) ∧ (p, w) ∈ ak A ρ ∧ K p = -1 ∧ pco K (ak A ρ) p ∧ p < 65536
def scS (f : Nat) (K : Nat → Int) : Prop := ∀ (I' : Nat → Nat → Int) (K' : Nat → Int), sr_fr I0 I' → (∀ q : Nat, q < 65536 → I' 128 q = K' q) → Sem (ak A) nr (twf F r) (vdf m) (Sg g ah) K → Fst (ak A) nr (twf F r) (vdf m) (Sg g ah) f K K' → Q (some (.inl 1)) (n, C, I', J, R)
def flS (h : Nat) (Ib : Nat → Nat → Int) (K : Nat → Int) : Prop := ∀ I' : Nat → Nat → Int, sr_fr I0 I' → (∀ q : Nat, q < 65536 → I' 128 q = K q) → I' 101 47 = (h : Int) → skp h Ib I' → ¬ Sem (ak A) nr (twf F r) (vdf m) (Sg g ah) K → am_WP (d + 3) (67, 136, [.inr (.inl 101), .inl 1, .inl 0, am_o, am_o, am_o, am_o], [], (0, 0), n, C, I', J, R) Q
end MSL
section MSM
variable {d n : Nat} {C : Nat → am_K} {J : Nat → Nat → Int} {R : Nat → Nat → Option Nat} {A : Nat → List (Nat × Int)} {g : Nat → Bool} {s nr ah : Nat} {K0 : Nat → Int} {I0 F : Nat → Nat → Int} {r N m : Nat} {Q : am_Q}
theorem m_conLoop {f h ρ p cw T fc kc : Nat} {K : Nat → Int} {Ib : Nat → Nat → Int} (hB : am_B C R) (hA : aOk (ak A) nr (twf F r) (vdf m)) (hE : sE A g s nr ah K0 I0) (hC : cE F r s N m I0) (sd : SDp d n C J R A g nr ah I0 F r m Q f) (hS : opS A g nr ah F r m K ρ p (cw : Int)) (ho : opn (ak A) nr K ≤ f + 1) (hh : h + (f + 1) ≤ 200) (hT : T < N) (hcw : cw < 36) (hct : F (r + 5) cw = (T : Int)) (hf : F (r + 3) T = (fc : Int)) (hk : F (r + 4) T = (kc : Int)) (sc : scS n C J R A g nr ah I0 F r m Q (f + 1) K) (fl : flS d n C J R A g nr ah I0 F r m Q h Ib K) : ∀ (u c : Nat) (o x5 y' y : Int) (I' I2 : Nat → Nat → Int), fc + kc ≤ c + u → fc ≤ c → c ≤ fc + kc → PS I0 Ib h p K y' 0 o I' → (o = 0 ∨ o = 1) → (∀ c' : Nat, fc ≤ c' → c' < c → ¬ Sem (ak A) nr (twf F r) (vdf m) (Sg g ah) (ku K p (c' : Int))) → (o ≠ 0 → ∃ u0 : Nat, fc ≤ u0 ∧ u0 < c ∧ ¬ wnd (ak A) nr (Sg g ah) K p (u0 : Int)) → NCp (ak A) nr (Sg g ah) K p h c (fc + kc) I' I2 y → am_WP (d + 3) (67, 253, [.inr (.inl 101), .inl 1, .inl 0, .inl (h : Int), .inl (p : Int), .inl x5, am_o], [.inl y], (0, 0), n, C, I2, J, R) Q := by
  obtain ⟨k1, k2, k3, k4, k5, k6, k7, k8⟩ := hS
  have hρ := k3.1
  have twc := twf_con hcw hct
  have hE1 := hE
  obtain ⟨e1, e2, -⟩ := hE1
  have skipf : ∀ (c : Nat) (o : Int), o ≠ 0 → c ≤ fc + kc → (∀ c' : Nat, fc ≤ c' → c' < c → ¬ Sem (ak A) nr (twf F r) (vdf m) (Sg g ah) (ku K p (c' : Int))) → (o ≠ 0 → ∃ u0 : Nat, fc ≤ u0 ∧ u0 < c ∧ ¬ wnd (ak A) nr (Sg g ah) K p (u0 : Int)) → ∀ c' : Nat, ¬ Sem (ak A) nr (twf F r) (vdf m) (Sg g ah) (ku K p (c' : Int)) := by
    intro c o h1 hce h2 h3 c' hs
    obtain ⟨u0, g1, g2, g3⟩ := h3 h1
    obtain ⟨v1, v2, v3, v4⟩ := con_vd hC hT hf hk g1 (show u0 < fc + kc by omega)
    refine h2 u0 g1 g2 (Sem_un hA k1 hρ k5 k6 k7 v3 (by rw [v4, twc]) (fun ρ' q1 q2 q3 q4 => g3 ⟨ρ', q1, q2, q3, q4⟩) (by omega) hs)
  have popc : ∀ (c : Nat) (o x5 y' : Int) (I' : Nat → Nat → Int), c ≤ fc + kc → PS I0 Ib h p K y' 0 o I' → (∀ c' : Nat, fc ≤ c' → c' < c → ¬ Sem (ak A) nr (twf F r) (vdf m) (Sg g ah) (ku K p (c' : Int))) → (o ≠ 0 → ∃ u0 : Nat, fc ≤ u0 ∧ u0 < c ∧ ¬ wnd (ak A) nr (Sg g ah) K p (u0 : Int)) → (∀ c' : Nat, c ≤ c' → c' < fc + kc → ¬ wnd (ak A) nr (Sg g ah) K p (c' : Int) ∧ I' 134 h ≠ 0) → am_WP (d + 3) (67, 253, [.inr (.inl 101), .inl 1, .inl 0, .inl (h : Int), .inl (p : Int), .inl x5, am_o], [.inl (-1)], (0, 0), n, C, I', J, R) Q := by
    intro c o x5 y' I' hce hP h1 h2 h3
    refine m_pop hB hP (by omega) (fun I3 g1 g2 g3 g4 => fl I3 g1 g2 g3 g4 (fun hs => ?_))
    obtain ⟨v, v1, v2, v3⟩ := Sem_step hA hρ k5 k6 k7 hs
    obtain ⟨c', rfl, w1, w2⟩ := vd_con hC hT hf hk v1 (by rw [v2, twc])
    rcases Nat.lt_or_ge c' c with q | q
    · exact h1 c' w1 q v3
    · have ho := (h3 c' q w2).2
      rw [hP.2.2.2.2.2.2.1] at ho
      exact skipf c o ho hce h1 h2 c' v3
  intro u
  induction u with
  | zero =>
    intro c o x5 y' y I' I2 hu h1 h2 hP ho2 i1 i2 hN
    rcases hN with ⟨q1, q2, q3⟩ | ⟨c0, q1, q2, q3, q4⟩
    · subst q1
      subst q2
      exact popc c o x5 y' I2 h2 hP i1 i2 q3
    · omega
  | succ u ih =>
    intro c o x5 y' y I' I2 hu h1 h2 hP ho2 i1 i2 hN
    rcases hN with ⟨q1, q2, q3⟩ | ⟨c0, q1, q2, q3, q4, q5⟩
    · subst q1
      subst q2
      exact popc c o x5 y' I2 h2 hP i1 i2 q3
    · subst q1
      obtain ⟨v1, v2, v3, v4⟩ := con_vd hC hT hf hk (show fc ≤ c0 by omega) q3
      have cm : m ≤ 36 := hC.2.1
      have o134 := hP.2.2.2.2.2.2.1
      have low : ∀ c' : Nat, fc ≤ c' → c' < c0 → ¬ Sem (ak A) nr (twf F r) (vdf m) (Sg g ah) (ku K p (c' : Int)) := by
        intro c' g1 g2
        rcases Nat.lt_or_ge c' c with q | q
        · exact i1 c' g1 q
        · have ho := (q4 c' q g2).2
          rw [o134] at ho
          exact skipf c o ho h2 i1 i2 c'
      obtain ⟨o', hP2, ho', i2'⟩ : ∃ o' : Int, PS I0 Ib h p K y' 0 o' I2 ∧ (o' = 0 ∨ o' = 1) ∧ (o' ≠ 0 → ∃ u0 : Nat, fc ≤ u0 ∧ u0 < c0 + 1 ∧ ¬ wnd (ak A) nr (Sg g ah) K p (u0 : Int)) := by
        rcases q5 with ⟨w1, w2⟩ | ⟨w1, w2, w3⟩
        · subst w2
          refine ⟨o, hP, ho2, fun hne => ?_⟩
          obtain ⟨u0, g1, g2, g3⟩ := i2 hne
          exact ⟨u0, g1, by omega, g3⟩
        · subst w3
          exact ⟨1, PS_o hP, Or.inr rfl, fun _ => ⟨c0, by omega, by omega, w1⟩⟩
      refine m_try hB hP2 (by omega) k8 (by omega) (by omega) (Or.inl ⟨rfl, rfl⟩) (fun I3 hP3 => ?_)
      obtain ⟨x1, x2⟩ := ct_ku hA k1 k2 hρ k5 k6 k7 v3 (by rw [v4, twc])
      have hlt := opn_ku (a := ak A) hρ k5 k6 (show ((c0 : Nat) : Int) ≠ -1 by omega)
      refine sd (ku K p (c0 : Int)) (h + 1) I3 x1 x2 (by omega) (by omega) hP3.1 hP3.2.1 hP3.2.2.1 (fun I4 K' g1 g2 g3 g4 => ?_) (fun I4 g1 g2 g3 g4 g5 => ?_)
      · refine sc I4 K' g1 g2 (Sem_up k6 g3) (Or.inr ⟨ρ, p, (cw : Int), (c0 : Int), k3, k4, ⟨v3, by rw [v4, twc], g3, fun _ v' a1 a2 a3 => ?_, fun h => absurd h (by omega)⟩, g4⟩)
        obtain ⟨c', rfl, w1, w2⟩ := vd_con hC hT hf hk a1 (by rw [a2, twc])
        exact low c' w1 (by omega)
      · have hP4 := PS_s hP3 g1 g2 g3 g4
        refine m_again (s := s) hB hP4 (fun q hq => ku_ne hq) k6 (by omega) k8 e1 e2 (Or.inl rfl) (fun _ _ I5 hP5 => ?_) (fun _ hy => absurd hy (by omega)) (fun hb => absurd hb (by decide))
        have hE5 := sE_fr hE hP5.1 hP5.2.1
        have hC5 := cE_fr hC hP5.1
        refine ⟨c0, F (r + 9) T, rfl, by omega, ?_, m_nextCon (c := c0 + 1) hB hE5 hC5 hT hf hk (by omega) (by omega) (by omega) (by rw [hP5.2.2.2.2.2.2.1]; exact ho') (fun y I6 hN6 => ⟨y, rfl, ?_⟩)⟩
        · obtain ⟨-, -, -, c4, -⟩ := hC5
          obtain ⟨T', t1, t2, t3⟩ := c4 c0 v1
          have : T' = T := by have := t2.symm.trans v2; omega
          rw [← this]; exact t3
        · refine ih (c0 + 1) o' _ _ y I5 I6 (by omega) (by omega) (by omega) hP5 ho' (fun c' w1 w2 => ?_) i2' hN6
          by_cases e : c' = c0
          · subst e; exact g5
          · exact low c' w1 (by omega)
theorem m_numLoop {f h ρ p : Nat} {w : Int} {K : Nat → Int} {Ib : Nat → Nat → Int} (hB : am_B C R) (hA : aOk (ak A) nr (twf F r) (vdf m)) (hV : ∀ ρ : Nat, ρ < nr → ∀ x ∈ ak A ρ, x.2 ≤ 1099) (hE : sE A g s nr ah K0 I0) (hC : cE F r s N m I0) (sd : SDp d n C J R A g nr ah I0 F r m Q f) (hS : opS A g nr ah F r m K ρ p w) (ho : opn (ak A) nr K ≤ f + 1) (hh : h + (f + 1) ≤ 200) (hw : 100 ≤ w) (sc : scS n C J R A g nr ah I0 F r m Q (f + 1) K) (fl : flS d n C J R A g nr ah I0 F r m Q h Ib K) : ∀ (u : Nat) (last o x5 y' y : Int) (I' : Nat → Nat → Int), 1000 - last ≤ (u : Int) → -1 ≤ last → PS I0 Ib h p K y' 1 o I' → (∀ n' : Int, 0 ≤ n' → n' ≤ last → wnd (ak A) nr (Sg g ah) K p (100 + n') → ¬ Sem (ak A) nr (twf F r) (vdf m) (Sg g ah) (ku K p (100 + n'))) → (1000 ≤ last → ∃ n' : Int, 0 ≤ n' ∧ ¬ wnd (ak A) nr (Sg g ah) K p (100 + n') ∧ ¬ Sem (ak A) nr (twf F r) (vdf m) (Sg g ah) (ku K p (100 + n'))) → NNp (ak A) nr (Sg g ah) K p last y → am_WP (d + 3) (67, 253, [.inr (.inl 101), .inl 1, .inl 0, .inl (h : Int), .inl (p : Int), .inl x5, am_o], [.inl y], (0, 0), n, C, I', J, R) Q := by
  obtain ⟨k1, k2, k3, k4, k5, k6, k7, k8⟩ := hS
  have hρ := k3.1
  have tw6 := twf_num (F := F) (r := r) hw
  have hE1 := hE
  obtain ⟨e1, e2, e3, -⟩ := hE1
  have unr := unw (S := Sg g ah) hA p K 100
  have wr : ∀ v : Int, wnd (ak A) nr (Sg g ah) K p v → 100 ≤ v ∧ v ≤ 1099 := by
    rintro v ⟨ρ', q1, q2, q3, q4⟩
    refine ⟨?_, hV ρ' q1 _ q4⟩
    have vv := (hA.1 ρ' q1 _ q4).2.1
    refine num_6 hC vv ?_
    rw [← tw6]
    refine (hA.2.2.1 ρ ρ' hρ q1 (p, w) k5 (p, v) q4 rfl ?_).symm
    rcases k7 with q | ⟨c, a1, a2⟩
    · exact Or.inl q
    · right
      rcases Nat.lt_or_ge 4 p with g4 | g4
      · obtain ⟨c', a3⟩ := (hA.1 ρ' q1 _ q4).2.2.2 g4
        rcases q3 _ a3 with b | b
        · have b : K (pr p) = -1 := b
          rw [a2] at b
          exact absurd b (hA.1 ρ hρ _ a1).2.2.1
        · have b : K (pr p) = c' := b
          rw [a2] at b
          subst b
          exact ⟨c, a1, a3⟩
      · exfalso
        have h0 : pr p = 0 := by unfold pr; omega
        have h9 : 1 ≤ pr p := (hA.1 ρ hρ _ a1).1
        omega
  intro u
  induction u with
  | zero =>
    intro last o x5 y' y I' hu hl hP i1 i2 hN
    rcases hN with ⟨q1, q2⟩ | ⟨q1, q2⟩
    · subst q2
      refine m_pop hB hP (by omega) (fun I3 g1 g2 g3 g4 => fl I3 g1 g2 g3 g4 (fun hs => ?_))
      obtain ⟨n', r1, r2, r3⟩ := i2 q1
      obtain ⟨v, v1, v2, v3⟩ := Sem_step hA hρ k5 k6 k7 hs
      have v6 := num_6 hC v1 (v2.trans tw6)
      exact r3 (Sem_un hA k1 hρ k5 k6 k7 (Or.inr (by omega)) (by rw [tw6, twf_num (by omega)]) (fun ρ' a1 a2 a3 a4 => r2 ⟨ρ', a1, a2, a3, a4⟩) (by omega) v3)
    · omega
  | succ u ih =>
    intro last o x5 y' y I' hu hl hP i1 i2 hN
    have ttry : ∀ v : Int, v = 100 + y % 1000 → last < y → 0 ≤ y → y < 2000 → (∀ n' : Int, 0 ≤ n' → n' < y → wnd (ak A) nr (Sg g ah) K p (100 + n') → ¬ Sem (ak A) nr (twf F r) (vdf m) (Sg g ah) (ku K p (100 + n'))) → (wnd (ak A) nr (Sg g ah) K p v ∧ y < 1000 ∨ ¬ wnd (ak A) nr (Sg g ah) K p v ∧ 1000 ≤ y ∧ ∀ v' : Int, 100 ≤ v' → v' < v → wnd (ak A) nr (Sg g ah) K p v') → am_WP (d + 3) (67, 253, [.inr (.inl 101), .inl 1, .inl 0, .inl (h : Int), .inl (p : Int), .inl x5, am_o], [.inl y], (0, 0), n, C, I', J, R) Q := by
      intro v hv hly hy0 hy1 low alt
      have v100 : 100 ≤ v := by omega
      refine m_try hB hP (by omega) k8 hy0 (by omega) (Or.inr ⟨rfl, hv⟩) (fun I3 hP3 => ?_)
      obtain ⟨x1, x2⟩ := ct_ku (v := v) hA k1 k2 hρ k5 k6 k7 (Or.inr v100) (by rw [tw6, twf_num v100])
      have hlt := opn_ku (a := ak A) hρ k5 k6 (show v ≠ -1 by omega)
      refine sd (ku K p v) (h + 1) I3 x1 x2 (by omega) (by omega) hP3.1 hP3.2.1 hP3.2.2.1 (fun I4 K' g1 g2 g3 g4 => ?_) (fun I4 g1 g2 g3 g4 g5 => ?_)
      · refine sc I4 K' g1 g2 (Sem_up k6 g3) (Or.inr ⟨ρ, p, w, v, k3, k4, ⟨Or.inr v100, by rw [tw6, twf_num v100], g3, fun h => absurd h (by omega), fun _ => ⟨v100, ?_⟩⟩, g4⟩)
        rcases alt with ⟨b1, b2⟩ | ⟨b1, b2, b3⟩
        · refine Or.inl ⟨b1, fun v' c1 c2 => ?_⟩
          have := wr v' c1
          have c3 := low (v' - 100) (by omega) (by omega)
          rw [show 100 + (v' - 100) = v' by omega] at c3
          exact c3 c1
        · refine Or.inr ⟨b1, b3, fun v' c1 => ?_⟩
          have := wr v' c1
          have c3 := low (v' - 100) (by omega) (by omega)
          rw [show 100 + (v' - 100) = v' by omega] at c3
          exact c3 c1
      · have hP4 := PS_s hP3 g1 g2 g3 g4
        refine m_again (s := s) hB hP4 (fun q hq => ku_ne hq) k6 (by omega) k8 e1 e2 (Or.inr rfl) (fun hb => absurd hb (by decide)) (fun hb => absurd hb (by decide)) (fun _ I5 hP5 => ?_)
        have hE5 := sE_fr hE hP5.1 hP5.2.1
        obtain ⟨n0, b1, b2⟩ := unr
        refine m_nextNumber hB hE5 (by omega) (by omega) ⟨n0, by omega, b2⟩ (fun y2 hN2 => ⟨y2, rfl, s_M_search_195 ?_⟩)
        refine ih y o _ y y2 I5 (by omega) (by omega) hP5 (fun n' c1 c2 c3 => ?_) (fun hy => ?_) hN2
        · by_cases e : n' = y
          · rcases alt with ⟨a1, a2⟩ | ⟨a1, a2, a3⟩
            · have : v = 100 + n' := by omega
              rw [← this]; exact g5
            · have := wr _ c3
              omega
          · exact low n' c1 (by omega) c3
        · rcases alt with ⟨a1, a2⟩ | ⟨a1, a2, a3⟩
          · omega
          · refine ⟨v - 100, by omega, ?_, ?_⟩
            · rw [show 100 + (v - 100) = v by omega]; exact a1
            · rw [show 100 + (v - 100) = v by omega]; exact g5
    rcases hN with ⟨q1, q2⟩ | ⟨q1, ⟨q2, q3, q4, q5, q6⟩ | ⟨q2, n', q3, q4, q5, q6, q7⟩⟩
    · subst q2
      refine m_pop hB hP (by omega) (fun I3 g1 g2 g3 g4 => fl I3 g1 g2 g3 g4 (fun hs => ?_))
      obtain ⟨n', r1, r2, r3⟩ := i2 q1
      obtain ⟨v, v1, v2, v3⟩ := Sem_step hA hρ k5 k6 k7 hs
      have v6 := num_6 hC v1 (v2.trans tw6)
      exact r3 (Sem_un hA k1 hρ k5 k6 k7 (Or.inr (by omega)) (by rw [tw6, twf_num (by omega)]) (fun ρ' a1 a2 a3 a4 => r2 ⟨ρ', a1, a2, a3, a4⟩) (by omega) v3)
    · refine ttry (100 + y) (by omega) q2 q3 (by omega) (fun n' a1 a2 a3 => ?_) (Or.inl ⟨q5, q4⟩)
      rcases Int.lt_or_le last n' with b | b
      · exact absurd a3 (q6 n' b a2)
      · exact i1 n' a1 b a3
    · refine ttry (100 + n') (by omega) (by omega) (by omega) (by omega) (fun n2 a1 a2 a3 => ?_) (Or.inr ⟨q6, by omega, fun v' b1 b2 => ?_⟩)
      · have := wr _ a3
        rcases Int.lt_or_le last n2 with b | b
        · exact absurd a3 (q2 n2 b (by omega))
        · exact i1 n2 a1 b a3
      · have := q7 (v' - 100) (by omega) (by omega)
        rw [show 100 + (v' - 100) = v' by omega] at this
        exact this
end MSM
