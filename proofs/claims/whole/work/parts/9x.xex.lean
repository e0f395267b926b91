/-! SEARCH: the class settles the first way -/
def cRw (a : Nat → List (Nat × Int)) (q : Nat → Bool) (p : Nat) (y : Int) : Nat := (List.range 12).countP (fun ρ => q ρ && (decide (0 ≤ wa (a ρ) (p : Int)) && decide (wa (a ρ) (p : Int) < y)))
theorem cRw_le {a : Nat → List (Nat × Int)} {q : Nat → Bool} {p : Nat} {y : Int} : cRw a q p y ≤ 12 := by
  have := List.countP_le_length (p := fun ρ => q ρ && (decide (0 ≤ wa (a ρ) (p : Int)) && decide (wa (a ρ) (p : Int) < y))) (l := List.range 12)
  rw [List.length_range] at this
  exact this
theorem cRw_lt {a : Nat → List (Nat × Int)} {q : Nat → Bool} {p ρ : Nat} {y y' : Int} (hρ : ρ < 12) (hq : q ρ = true) (h0 : 0 ≤ y) (hw : wa (a ρ) (p : Int) = y) (hy : y < y') : cRw a q p y < cRw a q p y' := by
  refine cnt_lt _ (fun x _ h => ?_) ⟨ρ, List.mem_range.mpr hρ, ?_, ?_⟩
  · simp only [Bool.and_eq_true, decide_eq_true_eq] at h ⊢
    exact ⟨h.1, h.2.1, by omega⟩
  · simp only [Bool.and_eq_true, decide_eq_true_eq]
    exact ⟨hq, by omega, by omega⟩
  · have : ¬ (wa (a ρ) (p : Int) < y) := by omega
    simp [this]
section XEX
variable {n0 : Nat} {C : Nat → am_K} {F J : Nat → Nat → Int} {R : Nat → Nat → Option Nat} {a : Nat → List (Nat × Int)} {bg : Nat → Nat} {ns cnt nr r N m : Nat} {S : Nat → Prop}
theorem x_settleFirst {K : Nat → Int} {q : Nat → Bool} {f d dep ρ p k i : Nat} {w : Int} {I : Nat → Nat → Int} {Q : am_Q} (hB : am_B C R) (hr : r = 41 ∨ r = 71) (hX : xE F a bg ns cnt nr r N m) (hI : stK F ns K I) (hq : rwq a nr S K q) (hO : opX F a nr r m S K ρ p w) (hs : asX F I ns k i p w) (hS : Sem a nr (twf F r) (vdf m) S K) (ho : opn a nr K ≤ f + 1) (hd : dep + f ≤ 60) (post : ∀ (v : Int) (q' : Nat → Bool) (I' : Nat → Nat → Int), Nx a nr (twf F r) (vdf m) S K p w v → stK F ns (ku K p v) I' → rwq a nr S (ku K p v) q' → Q (some (.inl ((mk q' 12 : Nat) : Int))) (n0, C, I', J, R)) : am_WP (d + f + 5) (am_entry 124 [.inr (.inl 31), .inr (.inl (r + 1)), .inl ((mk q 12 : Nat) : Int), .inl (k : Int), .inl (dep : Int)] (n0, C, I, J, R)) Q := by
  have hs0 := hs
  have hO0 := hO
  obtain ⟨s1, s2, s3, s4, s5⟩ := hs
  obtain ⟨k1, k2, k3, k4, k5, k6, k7⟩ := hO
  obtain ⟨Ic, hC⟩ := hX.2.2.2.1
  have hA := hX.2.2.2.2.1
  have nr12 := hX.2.2.1
  have m36 : m ≤ 36 := hC.2.1
  have ns60 : ns ≤ 60 := by have := hX.1.2.2.1; have := hX.1.2.2.2.1; omega
  have wv := (hA.1 ρ k3.1 _ k5).2.1
  have wv : vdf m w := wv
  have esc := XE_all (n0 := n0) (J := J) (S := S) hB hr hX f
  -- one answer is tried
  have try1 : ∀ (v : Int) (x8 : Nat) (qc : Nat → Bool) (I1 : Nat → Nat → Int), vdf m v → twf F r v = twf F r w → x8 ≤ 12 → stK F ns (ku K p v) I1 → rwq a nr S (ku K p v) qc → (Sem a nr (twf F r) (vdf m) S (ku K p v) → Nx a nr (twf F r) (vdf m) S K p w v) → (¬ Sem a nr (twf F r) (vdf m) S (ku K p v) → am_WP (d + f + 4) (am_entry 127 [.inr (.inl 31), .inr (.inl (r + 1)), .inl ((mk q 12 : Nat) : Int), .inl (i : Int), .inl (ec v)] (n0, C, I1, J, R)) (fun v1 s2 => ∃ z3 : Int, v1 = some (.inl z3) ∧ am_WP (d + f + 5) (124, 69, [.inr (.inl 31), .inr (.inl (r + 1)), .inl ((mk q 12 : Nat) : Int), .inl (k : Int), .inl (dep : Int), .inl (i : Int), .inl (ec v), .inl ((mk qc 12 : Nat) : Int), .inl (x8 : Int)], [.inl z3], (0, 0), s2) Q)) → am_WP (d + f + 5) (124, 34, [.inr (.inl 31), .inr (.inl (r + 1)), .inl ((mk q 12 : Nat) : Int), .inl (k : Int), .inl (dep : Int), .inl (i : Int), .inl (ec v), .inl ((mk qc 12 : Nat) : Int), .inl (x8 : Int)], [], (0, 0), n0, C, I1, J, R) Q := by
    intro v x8 qc I1 hv htw h8 hI1 hqc hN go
    have hv1 := hA.2.2.2 v hv
    have nn := ec_nn hv
    obtain ⟨c1, c2⟩ := ct_ku hA k1 k2 k3.1 k5 k6 k7 hv htw
    have hlt := opn_ku (a := a) k3.1 k5 k6 hv1
    exact s_Search_settleFirst_34 ⟨fun h => absurd h (by omega), fun _ => ⟨fun h => absurd h (by omega), fun _ => ⟨(am_kk hB rfl), esc (ku K p v) qc (d + f + 4) dep I1 _ c1 c2 (by omega) hd (by omega) hI1 hqc (fun hs => ⟨_, rfl, s_Search_settleFirst_56 ⟨fun _ => post v qc I1 (hN hs) hI1 hqc, fun h => absurd h (by decide)⟩⟩) (fun hs => ⟨_, rfl, s_Search_settleFirst_56 ⟨fun h => absurd rfl h, fun _ => ⟨(am_kk hB rfl), go hs⟩⟩⟩)⟩⟩⟩
  have offx : ∀ (v : Int) (I1 : Nat → Nat → Int), stK F ns (ku K p v) I1 → stKx F ns K i I1 := by
    intro v I1 hI1
    refine ⟨hI1.1, fun j pj hj hne hpj => ?_⟩
    have := hI1.2 j pj hj hpj
    rw [ku_ne (fun e => hne (hX.1.2.2.2.2.2.1 j i hj s2 (by rw [hpj, s4, e])))] at this
    exact this
  refine e_Search_settleFirst ⟨(am_kk hB rfl), 34, (am_rf hB rfl), (am_kk hB rfl), 36, (am_rf hB rfl), _, (am_kk hB rfl), ⟨by omega, by omega⟩, am_nm_k s3 ?_⟩
  rintro _ rfl _ _
  refine ⟨(am_kk hB rfl), ?_⟩
  rcases Int.lt_or_le w 100 with hw | hw
  · -- constructors
    obtain ⟨cw, rfl⟩ : ∃ cw : Nat, w = (cw : Int) := ⟨w.toNat, by unfold vdf at wv; omega⟩
    have cwm : cw < m := by unfold vdf at wv; omega
    obtain ⟨T, fc, kc, hcT, hT, c1, c2⟩ := tyX_of hC cwm
    have twc := twf_con (F := F) (r := r) (show cw < 36 by omega) hcT
    have hT0 := hT
    obtain ⟨t1, t2, t3, t4, t5, t6, t7, t8, t9⟩ := hT
    have loop : ∀ (u c : Nat) (qc : Nat → Bool) (I1 : Nat → Nat → Int), c + u + 1 = fc + kc → fc ≤ c → stK F ns (ku K p (c : Int)) I1 → rwq a nr S (ku K p (c : Int)) qc → (∀ c' : Nat, fc ≤ c' → c' < c → ¬ Sem a nr (twf F r) (vdf m) S (ku K p (c' : Int))) → am_WP (d + f + 5) (124, 34, [.inr (.inl 31), .inr (.inl (r + 1)), .inl ((mk q 12 : Nat) : Int), .inl (k : Int), .inl (dep : Int), .inl (i : Int), .inl (c : Int), .inl ((mk qc 12 : Nat) : Int), .inl ((c - fc : Nat) : Int)], [], (0, 0), n0, C, I1, J, R) Q := by
      intro u
      induction u with
      | zero =>
        intro c qc I1 hu hfc hI1 hqc hno
        obtain ⟨u1, u2, u3, u4⟩ := con_vd hC t1 t3 t4 hfc (show c < fc + kc by omega)
        have ecc : ec (c : Int) = (c : Int) := if_pos (by omega)
        have tr := try1 (c : Int) (c - fc) qc I1 u3 (by rw [u4, twc]) (by omega) hI1 hqc
        rw [ecc] at tr
        refine tr (fun hs => ⟨u3, by rw [u4, twc], hs, fun _ v' g1 g2 g3 => ?_, fun h => absurd h (by omega)⟩) (fun hs => ?_)
        · obtain ⟨c', rfl, w1, w2⟩ := vd_con hC t1 t3 t4 g1 (by rw [g2, twc])
          exact hno c' w1 (by omega)
        · exfalso
          refine Sem_cons hA hC hO0 hcT hT0 cwm (fun c' g1 g2 => ?_) hS
          by_cases e : c' = c
          · rw [e]; exact hs
          · exact hno c' g1 (by omega)
      | succ u ihu =>
        intro c qc I1 hu hfc hI1 hqc hno
        obtain ⟨u1, u2, u3, u4⟩ := con_vd hC t1 t3 t4 hfc (show c < fc + kc by omega)
        obtain ⟨y1, y2, y3, y4⟩ := con_vd hC t1 t3 t4 (show fc ≤ c + 1 by omega) (show c + 1 < fc + kc by omega)
        have ecc : ec (c : Int) = (c : Int) := if_pos (by omega)
        have ecc1 : ec ((c + 1 : Nat) : Int) = ((c + 1 : Nat) : Int) := if_pos (by omega)
        have tr := try1 (c : Int) (c - fc) qc I1 u3 (by rw [u4, twc]) (by omega) hI1 hqc
        rw [ecc] at tr
        refine tr (fun hs => ⟨u3, by rw [u4, twc], hs, fun _ v' g1 g2 g3 => ?_, fun h => absurd h (by omega)⟩) (fun hs => x_nextCon hB hr hI1.1 hT0 hfc (by omega) ⟨_, rfl, ?_⟩)
        · obtain ⟨c', rfl, w1, w2⟩ := vd_con hC t1 t3 t4 g1 (by rw [g2, twc])
          exact hno c' w1 (by omega)
        · rw [if_pos (by omega)]
          refine s_Search_settleFirst_69 ⟨(am_kk hB rfl), ?_⟩
          rw [← ecc1]
          refine x_settle hB hX (offx _ I1 hI1) hq s2 s4 y3 (Or.inl k6) (fun q' hq' hst => ⟨_, rfl, s_Search_settleFirst_80 (am_ar_i (by omega) (by omega) ?_)⟩)
          rw [ecc1] at hst ⊢
          have go := ihu (c + 1) q' _ (by omega) (by omega) hst hq' (fun c' g1 g2 => by
            by_cases e : c' = c
            · rw [e]; exact hs
            · exact hno c' g1 (by omega))
          rw [show ((c + 1 - fc : Nat) : Int) = ((c - fc : Nat) : Int) + 1 by omega] at go
          exact go
    refine x_firstCon' hB hr hI.1 hT0 c1 c2 hs0 ⟨_, rfl, s_Search_settleFirst_18 ⟨(am_kk hB rfl), ?_⟩⟩
    obtain ⟨u1, u2, u3, u4⟩ := con_vd hC t1 t3 t4 (Nat.le_refl fc) (show fc < fc + kc by omega)
    have ecc : ec (fc : Int) = (fc : Int) := if_pos (by omega)
    rw [← ecc]
    refine x_settle hB hX (stK_x hI) hq s2 s4 u3 (Or.inl k6) (fun q' hq' hst => ⟨_, rfl, s_Search_settleFirst_29 ?_⟩)
    rw [ecc] at hst ⊢
    have go := loop (kc - 1) fc q' _ (by omega) (Nat.le_refl _) hst hq' (fun c' g1 g2 => absurd g1 (by omega))
    rw [Nat.sub_self] at go
    exact go
  · -- numbers
    have tw6 : ∀ v : Int, 100 ≤ v → twf F r v = twf F r w := fun v hv => by rw [twf_num hv, twf_num hw]
    have wr : ∀ v : Int, wnd a nr S K p v → 100 ≤ v ∧ v ≤ 1099 := by
      intro v h
      obtain ⟨g1, g2⟩ := wnd_ty hA hO0 h
      rw [twf_num hw] at g2
      obtain ⟨ρ', q1, q2, q3, q4⟩ := h
      exact ⟨num_6 hC g1 g2, hX.2.2.2.2.2.2.2 ρ' q1 _ q4⟩
    have row : ∀ v : Int, wnd a nr S K p v → ∃ ρ' : Nat, ρ' < 12 ∧ q ρ' = true ∧ wa (a ρ') (p : Int) = ec v := by
      rintro v ⟨ρ', f1, f2, f3, f4⟩
      exact ⟨ρ', by omega, (hq ρ' (by omega)).mpr ⟨f1, f2, f3⟩, wa_mem (xE_cns hX ρ') f4⟩
    have last : ∀ (v : Int) (x8 : Nat) (qc : Nat → Bool) (I1 : Nat → Nat → Int), luw a nr S K p v → x8 ≤ 12 → (∀ v' : Int, wnd a nr S K p v' → ¬ Sem a nr (twf F r) (vdf m) S (ku K p v')) → stK F ns (ku K p v) I1 → rwq a nr S (ku K p v) qc → am_WP (d + f + 5) (124, 34, [.inr (.inl 31), .inr (.inl (r + 1)), .inl ((mk q 12 : Nat) : Int), .inl (k : Int), .inl (dep : Int), .inl (i : Int), .inl (ec v), .inl ((mk qc 12 : Nat) : Int), .inl (x8 : Int)], [], (0, 0), n0, C, I1, J, R) Q := by
      intro v x8 qc I1 hv h8 hall hI1 hqc
      exact try1 v x8 qc I1 (Or.inr hv.1) (tw6 v hv.1) h8 hI1 hqc (fun hs => ⟨Or.inr hv.1, tw6 v hv.1, hs, fun h => absurd h (by omega), fun _ => ⟨hv.1, Or.inr ⟨hv.2.2.1, hv.2.2.2, hall⟩⟩⟩) (fun hs => absurd (Sem_num hA hO0 hw hv.1 hv.2.2.1 hS) hs)
    have loop : ∀ (u : Nat) (v : Int) (x8 : Nat) (qc : Nat → Bool) (I1 : Nat → Nat → Int), 1100 - v ≤ (u : Int) → wnd a nr S K p v → x8 ≤ cRw a q p (ec v) → (∀ v' : Int, wnd a nr S K p v' → v' < v → ¬ Sem a nr (twf F r) (vdf m) S (ku K p v')) → stK F ns (ku K p v) I1 → rwq a nr S (ku K p v) qc → am_WP (d + f + 5) (124, 34, [.inr (.inl 31), .inr (.inl (r + 1)), .inl ((mk q 12 : Nat) : Int), .inl (k : Int), .inl (dep : Int), .inl (i : Int), .inl (ec v), .inl ((mk qc 12 : Nat) : Int), .inl (x8 : Int)], [], (0, 0), n0, C, I1, J, R) Q := by
      intro u
      induction u with
      | zero =>
        intro v x8 qc I1 hu hv
        have := wr v hv
        omega
      | succ u ihu =>
        intro v x8 qc I1 hu hv h8 hno hI1 hqc
        have v1 := wr v hv
        have cle := cRw_le (a := a) (q := q) (p := p) (y := ec v)
        have ev : ec v = v - 64 := if_neg (by omega)
        obtain ⟨ρ', g1, g2, g3⟩ := row v hv
        refine try1 v x8 qc I1 (Or.inr v1.1) (tw6 v v1.1) (by omega) hI1 hqc (fun hs => ⟨Or.inr v1.1, tw6 v v1.1, hs, fun h => absurd h (by omega), fun _ => ⟨v1.1, Or.inl ⟨hv, hno⟩⟩⟩) (fun hs => x_nextNum (d := d + f + 1) hB hX hI1.1 hq hO0 hw s2 s4 hv (fun v2 b1 b2 b3 => ⟨_, rfl, s_Search_settleFirst_69 ⟨(am_kk hB rfl), ?_⟩⟩) (fun b1 v2 b2 => ⟨_, rfl, s_Search_settleFirst_69 ⟨(am_kk hB rfl), ?_⟩⟩))
        · have v2r := wr v2 b2
          have ev2 : ec v2 = v2 - 64 := if_neg (by omega)
          have lt := cRw_lt (a := a) (y' := ec v2) g1 g2 (by omega) g3 (by omega)
          have cle2 := cRw_le (a := a) (q := q) (p := p) (y := ec v2)
          refine x_settle hB hX (offx _ I1 hI1) hq s2 s4 (Or.inr v2r.1) (Or.inl k6) (fun q' hq' hst => ⟨_, rfl, s_Search_settleFirst_80 (am_ar_i (by omega) (by omega) ?_)⟩)
          have go := ihu v2 (x8 + 1) q' _ (by omega) b2 (by omega) (fun v' w1 w2 => by
            rcases Int.lt_trichotomy v' v with e | e | e
            · exact hno v' w1 e
            · rw [e]; exact hs
            · exact absurd w1 (b3 v' e w2)) hst hq'
          exact go
        · have lt := cRw_lt (a := a) (y' := ec v + 1) g1 g2 (by omega) g3 (by omega)
          have cle2 := cRw_le (a := a) (q := q) (p := p) (y := ec v + 1)
          refine x_settle hB hX (offx _ I1 hI1) hq s2 s4 (Or.inr b2.1) (Or.inl k6) (fun q' hq' hst => ⟨_, rfl, s_Search_settleFirst_80 (am_ar_i (by omega) (by omega) ?_)⟩)
          exact last v2 (x8 + 1) q' _ b2 (by omega) (fun v' w1 => by
            rcases Int.lt_trichotomy v' v with e | e | e
            · exact hno v' w1 e
            · rw [e]; exact hs
            · exact absurd w1 (b1 v' e)) hst hq'
    refine x_firstNum (d := d + f + 2) hB hX hI.1 hq hO0 hw hs0 (fun v b1 b2 b3 => ⟨_, rfl, s_Search_settleFirst_18 ⟨(am_kk hB rfl), ?_⟩⟩)
    have v1 := wr v b2
    refine x_settle hB hX (stK_x hI) hq s2 s4 (Or.inr b1) (Or.inl k6) (fun q' hq' hst => ⟨_, rfl, s_Search_settleFirst_29 ?_⟩)
    exact loop 1000 v 0 q' _ (by omega) b2 (Nat.zero_le _) (fun v' w1 w2 => absurd w1 (b3 v' w2)) hst hq'
theorem x_settleExample {K : Nat → Int} {q : Nat → Bool} {f d : Nat} {I : Nat → Nat → Int} {Q : am_Q} (hB : am_B C R) (hr : r = 41 ∨ r = 71) (hX : xE F a bg ns cnt nr r N m) (hI : stK F ns K I) (hq : rwq a nr S K q) (k1 : clo K) (k2 : typ a nr (twf F r) (vdf m) K) (hS : Sem a nr (twf F r) (vdf m) S K) (ho : opn a nr K ≤ f) (f60 : f ≤ 60) (post : ∀ (I' : Nat → Nat → Int) (K' : Nat → Int), stK F ns K' I' → Fst a nr (twf F r) (vdf m) S f K K' → Q none (n0, C, I', J, R)) : am_WP (d + 70) (am_entry 123 [.inr (.inl 31), .inr (.inl (r + 1)), .inl ((mk q 12 : Nat) : Int)] (n0, C, I, J, R)) Q := by
  have hA := hX.2.2.2.2.1
  have hOr := hX.2.2.2.2.2.1
  have nr12 := hX.2.2.1
  have loop : ∀ (f : Nat) (x2 : Int) (K : Nat → Int) (q : Nat → Bool) (I : Nat → Nat → Int) (dep : Nat) (y : Int), clo K → typ a nr (twf F r) (vdf m) K → Sem a nr (twf F r) (vdf m) S K → opn a nr K ≤ f → dep + f ≤ 61 → stK F ns K I → rwq a nr S K q → ((y = -1 ∧ nol a nr S K) ∨ ∃ (ρ k i p : Nat) (w : Int), isF a nr S K ρ ∧ fo K (a ρ) = some (p, w) ∧ asX F I ns k i p w ∧ y = (k : Int)) → (∀ (I' : Nat → Nat → Int) (K' : Nat → Int), stK F ns K' I' → Fst a nr (twf F r) (vdf m) S f K K' → Q none (n0, C, I', J, R)) → am_WP (d + 70) (123, 12, [.inr (.inl 31), .inr (.inl (r + 1)), .inl x2, .inl ((mk q 12 : Nat) : Int), .inl y, .inl (dep : Int)], [], (0, 0), n0, C, I, J, R) Q := by
    intro f
    induction f with
    | zero =>
      intro x2 K q I dep y k1 k2 hS ho hd hI hq hy post
      rcases hy with ⟨h1, h2⟩ | ⟨ρ, k, i, p, w, h1, h2, h3, h4⟩
      · have fin := post I K hI ⟨h2, rfl⟩
        exact s_Search_settleExample_12 ⟨fun _ => fin, fun _ => ⟨fun _ => fin, fun h => absurd h1 h⟩⟩
      · exfalso
        obtain ⟨m1, m2, -⟩ := fo_at h1 (hOr ρ h1.1) h2
        have := opn_ku (v := 0) h1.1 m1 m2 (by decide)
        omega
    | succ f ih =>
      intro x2 K q I dep y k1 k2 hS ho hd hI hq hy post
      rcases hy with ⟨h1, h2⟩ | ⟨ρ, k, i, p, w, h1, h2, h3, h4⟩
      · have fin := post I K hI (Or.inl ⟨h2, rfl⟩)
        exact s_Search_settleExample_12 ⟨fun _ => fin, fun _ => ⟨fun _ => fin, fun h => absurd h1 h⟩⟩
      · obtain ⟨m1, m2, m3⟩ := fo_at h1 (hOr ρ h1.1) h2
        have hO : opX F a nr r m S K ρ p w := ⟨k1, k2, h1, h2, m1, m2, m3⟩
        rw [h4]
        refine s_Search_settleExample_12 ⟨fun h => absurd h (by omega), fun _ => ⟨fun h => absurd h (by omega), fun _ => ⟨(am_kk hB rfl), ?_⟩⟩⟩
        have go := x_settleFirst (n0 := n0) (J := J) (d := d + 64 - f) (f := f) (dep := dep) (Q := fun v1 s2 => ∃ z3 : Int, v1 = some (.inl z3) ∧ am_WP (d + 70) (123, 35, [.inr (.inl 31), .inr (.inl (r + 1)), .inl x2, .inl ((mk q 12 : Nat) : Int), .inl (k : Int), .inl (dep : Int)], [.inl z3], (0, 0), s2) Q) hB hr hX hI hq hO h3 hS ho (by omega) (fun v q' I' hN hI' hq' => ⟨_, rfl, ?_⟩)
        · rw [show d + 64 - f + f + 5 = d + 69 by omega] at go
          exact go
        · have hv := hN.1
          have hv1 := hA.2.2.2 v hv
          obtain ⟨c1, c2⟩ := ct_ku hA k1 k2 h1.1 m1 m2 m3 hv hN.2.1
          have hlt := opn_ku (a := a) h1.1 m1 m2 hv1
          have goon : ∀ y : Int, ((y = -1 ∧ nol a nr S (ku K p v)) ∨ ∃ (ρ k i p' : Nat) (w : Int), isF a nr S (ku K p v) ρ ∧ fo (ku K p v) (a ρ) = some (p', w) ∧ asX F I' ns k i p' w ∧ y = (k : Int)) → am_WP (d + 70) (123, 41, [.inr (.inl 31), .inr (.inl (r + 1)), .inl x2, .inl ((mk q' 12 : Nat) : Int), .inl (k : Int), .inl (dep : Int)], [.inl y], (0, 0), n0, C, I', J, R) Q := by
            intro y hy
            refine s_Search_settleExample_41 (am_ar_i (by omega) (by omega) ?_)
            exact ih x2 (ku K p v) q' I' (dep + 1) y c1 c2 hN.2.2.1 (by omega) (by omega) hI' hq' hy (fun I2 K2 g1 g2 => post I2 K2 g1 (Or.inr ⟨ρ, p, w, v, h1, h2, hN, g2⟩))
          exact s_Search_settleExample_35 ⟨(am_kk hB rfl), x_openAsk hB hX hI' hq' (fun ρ' k' i' p' w' g1 g2 g3 g4 g5 g6 g7 => ⟨_, rfl, goon _ (Or.inr ⟨ρ', k', i', p', w', g1, g2, ⟨g3, g4, g5, g6, g7⟩, rfl⟩)⟩) (fun ρ' g1 g2 => absurd hN.2.2.1 (Sem_find g1 g2)) (fun hn => ⟨_, rfl, goon _ (Or.inl ⟨rfl, hn⟩)⟩)⟩
  refine e_Search_settleExample ⟨(am_kk hB rfl), x_openAsk hB hX hI hq (fun ρ' k' i' p' w' g1 g2 g3 g4 g5 g6 g7 => ⟨_, rfl, s_Search_settleExample_7 ?_⟩) (fun ρ' g1 g2 => absurd hS (Sem_find g1 g2)) (fun hn => ⟨_, rfl, s_Search_settleExample_7 ?_⟩)⟩
  · exact loop f _ K q I 1 _ k1 k2 hS ho (by omega) hI hq (Or.inr ⟨ρ', k', i', p', w', g1, g2, ⟨g3, g4, g5, g6, g7⟩, rfl⟩) post
  · exact loop f _ K q I 1 _ k1 k2 hS ho (by omega) hI hq (Or.inl ⟨rfl, hn⟩) post
end XEX
