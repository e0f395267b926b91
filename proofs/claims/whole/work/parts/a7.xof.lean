/-! SEARCH: the class finds the example, and what reaches a row -/
theorem wtx_cg {K : Nat → Int} {F F' : Nat → Nat → Int} {aT : Nat → Int} {r : Nat} {nmL : Nat → List Int} (h2 : F' (r + 2) = F (r + 2)) (h3 : F' (r + 3) = F (r + 3)) (h6 : F' (r + 6) = F (r + 6)) : ∀ n : Nat, wtx K F' aT r nmL n = wtx K F aT r nmL n := by
  intro n
  induction n with
  | zero => rfl
  | succ n ih =>
    funext p w
    unfold wtx wcn
    rw [h2, h3, h6, ih]
theorem twf_cg {F F' : Nat → Nat → Int} {r : Nat} (h5 : F' (r + 5) = F (r + 5)) : twf F' r = twf F r := by
  funext v
  unfold twf
  rw [h5]
theorem nwc_cg {F F' : Nat → Nat → Int} {r : Nat} (h2 : F' (r + 2) = F (r + 2)) (h5 : F' (r + 5) = F (r + 5)) : nwc F' r = nwc F r := by
  funext c
  unfold nwc
  rw [h2, h5]
theorem Sa_cg {I I' J J' : Nat → Nat → Int} {r m : Nat} {ws : List rw0} (h2 : I' (r + 2) = I (r + 2)) (h5 : I' (r + 5) = I (r + 5)) (h7 : J' (r + 7) = J (r + 7)) : Sa I' J' r m ws = Sa I J r m ws := by
  unfold Sa
  rw [nwc_cg h2 h5, h7]
theorem rs_G_cg {I I' : Nat → Nat → Int} {b : Nat} {cof : Int → Int} (h : I' (b + 7) = I (b + 7)) : ∀ (ws : List rw0) (i : Nat), rs_G I b cof i ws → rs_G I' b cof i ws := by
  intro ws
  induction ws with
  | nil => intro i _; exact trivial
  | cons w ws ih =>
    intro i hg
    exact ⟨ft_GL_fr w.1 i hg.1 (fun j _ _ => by rw [h]), ih _ hg.2⟩
theorem ft_H_eq {I I' J J' : Nat → Nat → Int} {b : Nat} (hI : ∀ x : Nat, b + 1 ≤ x → x ≤ b + 9 → x ≠ b + 7 → I' x = I x) (hJ : J' (b + 5) = J (b + 5)) : ∀ n : Nat, ft_H I' J' b n = ft_H I J b n := by
  intro n
  induction n with
  | zero => rfl
  | succ n ih =>
    funext i t
    unfold ft_H
    rw [hI (b + 1) (by omega) (by omega) (by omega), hI (b + 2) (by omega) (by omega) (by omega), hI (b + 3) (by omega) (by omega) (by omega), hI (b + 4) (by omega) (by omega) (by omega), hI (b + 6) (by omega) (by omega) (by omega), hI (b + 8) (by omega) (by omega) (by omega), hI (b + 9) (by omega) (by omega) (by omega), hJ, ih]
theorem xw_rows_c7 {I I' J J' : Nat → Nat → Int} {r : Nat} (hf : ∀ x : Nat, r + 16 ≤ x → x ≤ r + 29 → x ≠ r + 22 → x ≠ r + 26 → I' x = I x) (hj : J' (r + 20) = J (r + 20)) : ∀ (ws : List rw0) (ρ i : Nat), xw_rows I J r ρ i ws → xw_rows I' J' r ρ i ws := by
  intro ws
  induction ws with
  | nil => intro _ _ _; exact trivial
  | cons u us ih2 =>
    intro ρ' i' hu
    obtain ⟨u1, u2, u3, u4⟩ := hu
    refine ⟨by rw [hf (r + 25) (by omega) (by omega) (by omega) (by omega)]; exact u1, by rw [hf (r + 29) (by omega) (by omega) (by omega) (by omega)]; exact u2, ?_, ih2 _ _ u4⟩
    rw [ft_H_eq (b := r + 15) (I := I) (I' := I') (J := J) (J' := J') (fun x a1 a2 a3 => hf x (by omega) (by omega) (by omega) (by omega)) hj 6, hf (r + 24) (by omega) (by omega) (by omega) (by omega)]
    exact u3
theorem xw_rows_cg {I I' J J' : Nat → Nat → Int} {r : Nat} (hf : ∀ x : Nat, r ≤ x → x ≤ r + 29 → I' x = I x) (hj : ∀ x : Nat, r ≤ x → x ≤ r + 29 → J' x = J x) (ws : List rw0) (ρ i : Nat) (h : xw_rows I J r ρ i ws) : xw_rows I' J' r ρ i ws := xw_rows_c7 (fun x a1 a2 _ _ => hf x (by omega) a2) (hj _ (by omega) (by omega)) ws ρ i h
theorem Sx_fr {I I' J J' : Nat → Nat → Int} {r s N m wd : Nat} {ws : List rw0} {nmL : Nat → List Int} (hf : ∀ x : Nat, r ≤ x → x ≤ r + 29 → I' x = I x) (hj : ∀ x : Nat, r ≤ x → x ≤ r + 29 → J' x = J x) (h : Sx I J r s ws N m wd nmL) : Sx I' J' r s ws N m wd nmL := by
  obtain ⟨hr, hE, hTy, w1, l0, l12, h60, ho, hrs, hn, hn8, g2, g3, g4, g5, g6⟩ := h
  have e0 := hf r (by omega) (by omega)
  have e2 := hf (r + 2) (by omega) (by omega)
  have e3 := hf (r + 3) (by omega) (by omega)
  have e4 := hf (r + 4) (by omega) (by omega)
  have e5 := hf (r + 5) (by omega) (by omega)
  have e6 := hf (r + 6) (by omega) (by omega)
  have e8 := hf (r + 8) (by omega) (by omega)
  have e9 := hf (r + 9) (by omega) (by omega)
  have e12 := hf (r + 12) (by omega) (by omega)
  have e26 := hf (r + 26) (by omega) (by omega)
  have e27 := hf (r + 27) (by omega) (by omega)
  have j7 := hj (r + 7) (by omega) (by omega)
  refine ⟨hr, ?_, ?_, w1, l0, l12, h60, ho, ?_, ?_, hn8, ?_, ?_, ?_, xw_rows_cg hf hj ws 0 0 g5, ?_⟩
  · unfold rE at hE ⊢
    rw [e2, e5, e6, e8, e9, e12, e26, e27]; exact hE
  · unfold tyS at hTy ⊢
    rw [e2, e3, e4, e5, e6]; exact hTy
  · rw [e5, e6, e8, e26, j7]; exact hrs
  · rw [j7]; exact hn
  · rw [e0]; exact g2
  · rw [e0]; exact g3
  · rw [e0]; exact g4
  · rw [j7]; exact rs_G_cg (hf (r + 15 + 7) (by omega) (by omega)) ws 0 g6
section XOF
variable {d n0 : Nat} {C : Nat → am_K} {I J : Nat → Nat → Int} {R : Nat → Nat → Option Nat} {Q : am_Q} {r s N m wd : Nat} {ws : List rw0} {nmL : Nat → List Int}
theorem x_findExample (hB : am_B C R) (h : Sx I J r s ws N m wd nmL) (hk : sAk (Sa I J r m ws) ws.length I) (h31 : I 31 3 = 0) (hL : xl [] I) (post : ∀ I' : Nat → Nat → Int, (∀ a : Nat, a ≠ 31 → a ≠ 32 → a ≠ 33 → a ≠ 40 → I' a = I a) → I' 31 3 = 1 → (¬ Sem (Sa I J r m ws) ws.length (twf I r) (vdf m) (Sg (rsg ws) ws.length) (fun _ => -1) → xl [] I') → (∀ K' : Nat → Int, Fst (Sa I J r m ws) ws.length (twf I r) (vdf m) (Sg (rsg ws) ws.length) 60 (fun _ => -1) K' → Sem (Sa I J r m ws) ws.length (twf I r) (vdf m) (Sg (rsg ws) ws.length) (fun _ => -1) → xl (ext (wtx K' I (I (r + 8)) r nmL 6) (I (r + 26)) wd 0) I') → Q none (n0, C, I', J, R)) : am_WP (d + 72) (am_entry 118 [.inr (.inl 31), .inr (.inl r)] (n0, C, I, J, R)) Q := by
  have hr := h.1
  obtain ⟨ns, hx, h38⟩ := hk
  have k0 : C r = .inl 5 := am_kq (i := 0) hB hr (by decide) rfl
  refine e_Search_findExample ⟨(am_kk hB rfl), am_nm_k h31 ?_⟩
  rintro _ rfl _ _
  refine ⟨fun _ => ⟨⟨by decide, (am_kk hB rfl)⟩, Or.inr rfl, (am_kk hB rfl), ?_⟩, fun h => absurd rfl h⟩
  have f0 : ∀ a : Nat, a ≠ 31 → am_u I 31 3 1 a = I a := fun a ha => am_u_row ha
  have v0 : am_u I 31 3 1 31 3 = 1 := am_u_kk
  generalize am_u I 31 3 1 = F0 at f0 v0 ⊢
  have hS : Sx F0 J r s ws N m wd nmL := Sx_fr (fun x a1 a2 => f0 x (by omega)) (fun _ _ _ => rfl) h
  have eSa : Sa F0 J r m ws = Sa I J r m ws := Sa_cg (f0 _ (by omega)) (f0 _ (by omega)) rfl
  have etw : twf F0 r = twf I r := twf_cg (f0 _ (by omega))
  have ewt : ∀ K' : Nat → Int, wtx K' F0 (F0 (r + 8)) r nmL 6 = wtx K' I (I (r + 8)) r nmL 6 := fun K' => by rw [f0 (r + 8) (by omega)]; exact wtx_cg (f0 _ (by omega)) (f0 _ (by omega)) (f0 _ (by omega)) 6
  have e26 : F0 (r + 26) = I (r + 26) := f0 _ (by omega)
  rw [← eSa] at hx h38
  rw [← eSa, ← etw] at post
  have post : ∀ I' : Nat → Nat → Int, (∀ a : Nat, a ≠ 31 → a ≠ 32 → a ≠ 33 → a ≠ 40 → I' a = F0 a) → I' 31 = F0 31 → (¬ Sem (Sa F0 J r m ws) ws.length (twf F0 r) (vdf m) (Sg (rsg ws) ws.length) (fun _ => -1) → xl [] I') → (∀ K' : Nat → Int, Fst (Sa F0 J r m ws) ws.length (twf F0 r) (vdf m) (Sg (rsg ws) ws.length) 60 (fun _ => -1) K' → Sem (Sa F0 J r m ws) ws.length (twf F0 r) (vdf m) (Sg (rsg ws) ws.length) (fun _ => -1) → xl (ext (wtx K' F0 (F0 (r + 8)) r nmL 6) (F0 (r + 26)) wd 0) I') → Q none (n0, C, I', J, R) := by
    intro I' a1 a2 a3 a4
    refine post I' (fun a g1 g2 g3 g4 => (a1 a g1 g2 g3 g4).trans (f0 a g1)) (by rw [a2]; exact v0) a3 (fun K' b1 b2 => ?_)
    have := a4 K' b1 b2
    rw [ewt, e26] at this
    exact this
  have hL : xl [] F0 := ⟨by rw [f0 32 (by decide)]; exact hL.1, trivial⟩
  have hx : xaC (Sa F0 J r m ws) (fun ρ => bgs (Sa F0 J r m ws) (min ρ ws.length)) ns (bgs (Sa F0 J r m ws) ws.length) F0 := xaC_fr hx (fun x a1 a2 _ => f0 x (by omega))
  have hX := xE_of hS hx (fun ρ hρ => by rw [f0 38 (by decide)]; exact h38 ρ hρ)
  obtain ⟨a1, a2, a3, a4, a5, a6, a7, a8⟩ := Sx_ok hS
  clear h h38 f0 ewt e26 eSa etw
  have hS0 := hS
  obtain ⟨-, hE, hTy, w1, l0, l12, h60, ho, hf, hn, hn8, g2, g3, ⟨p, g4, gb⟩, g5, g6⟩ := hS
  have ns60 : ns ≤ 60 := by have := hx.2.2.1; have := hx.2.2.2.1; omega
  have hq : rwq (Sa F0 J r m ws) ws.length (Sg (rsg ws) ws.length) (fun _ => -1) (fun ρ => decide (ρ < ws.length) && p ρ) := by
    intro ρ hρ
    have hb := xw_bits_at ws 0 gb ρ
    rw [Nat.zero_add] at hb
    constructor
    · intro e
      have e : decide (ρ < ws.length) = true ∧ p ρ = true := by simpa using e
      have e1 : ρ < ws.length := by simpa using e.1
      refine ⟨e1, ⟨e1, ?_⟩, fun x _ => Or.inl rfl⟩
      have := hb e1
      rw [e.2] at this
      cases hh : rsg ws ρ
      · rfl
      · rw [hh] at this; exact absurd this (by simp)
    · rintro ⟨e1, ⟨-, e2⟩, -⟩
      have := hb e1
      rw [e2] at this
      show (decide (ρ < ws.length) && p ρ) = true
      rw [this]
      simp [e1]
  have g4 : F0 r 4 = ((mk (fun ρ => decide (ρ < ws.length) && p ρ) 12 : Nat) : Int) := by rw [← mk_12 l12]; exact g4
  refine x_unsettle hB (fun I1 f1 u1 => ⟨rfl, ?_⟩)
  have st1 : stK F0 ns (fun _ => -1) I1 := ⟨f1, fun i p' hi _ => u1 i (by omega)⟩
  have r4 : I1 r 4 = ((mk (fun ρ => decide (ρ < ws.length) && p ρ) 12 : Nat) : Int) := by rw [f1 r (by omega)]; exact g4
  refine s_Search_findExample_17 ⟨k0, r + 1, am_rq (i := 0) hB hr rfl rfl, k0, am_nm_k r4 ?_⟩
  rintro _ rfl _ _
  refine ⟨(am_kk hB rfl), XE_all (S := Sg (rsg ws) ws.length) hB hr hX 60 (fun _ => -1) _ (d + 71) 0 I1 _ clo_0 typ_0 (a8 _) (Nat.le_refl _) (by omega) st1 hq (fun hSem => ⟨_, rfl, ?_⟩) (fun hno => ⟨_, rfl, ?_⟩)⟩
  · refine s_Search_findExample_30 ⟨fun h => absurd h (by decide), fun _ => ⟨k0, r + 1, am_rq (i := 0) hB hr rfl rfl, k0, am_nm_k r4 ?_⟩⟩
    rintro _ rfl _ _
    refine ⟨(am_kk hB rfl), x_settleExample hB hr hX st1 hq clo_0 typ_0 hSem (a8 _) (Nat.le_refl _) (fun I2 K' s2 hF => ⟨rfl, ?_⟩)⟩
    obtain ⟨Ic, hC⟩ := cE_of hE hTy
    have hj := Fst_jst a1 hC a3 a2 l12 60 _ K' hF clo_0 typ_0 jst_0
    have hkv := jst_kv hj
    obtain ⟨cA, cl⟩ := cols_all (nmL := nmL) hE hTy (by decide) hC ho hf h60 hj (fun c => (hn8 c).2)
    have e2 : ∀ a : Nat, a ≠ 40 → I2 a = F0 a := s2.1
    have ewt : wtx K' I2 (F0 (r + 8)) r nmL 6 = wtx K' F0 (F0 (r + 8)) r nmL 6 := wtx_cg (e2 _ (by omega)) (e2 _ (by omega)) (e2 _ (by omega)) 6
    have hW : xW I2 J K' (F0 (r + 8)) nmL r N m ns := by
      refine ⟨hr, hE.2.1, hE.2.2.1, ns60, by rw [e2 34 (by decide)]; exact hx.1, fun i p' hi hp => s2.2 i p' hi (by rw [← e2 35 (by decide)]; exact hp), fun p' hp => ?_, hkv, e2 _ (by omega), fun c hc => ?_, fun T hT => ?_⟩
      · rcases Classical.em (K' p' = -1) with q | q
        · exact q
        · obtain ⟨ρ, v, j1, j2, -⟩ := hj p' q
          obtain ⟨i, i1, i2⟩ := xal_mem _ _ (hx.2.2.2.2.2.2.1 ρ (by omega)).2 _ j2
          exact absurd (by rw [e2 35 (by decide)]; exact i2) (hp i i1)
      · obtain ⟨-, b1, b2, -⟩ := hE.2.2.2.2.2.1 c hc
        rw [e2 (r + 6) (by omega)]
        exact ⟨b1, b2, fun z hz => at_ty hE hc hz, (hn c hc).1, (hn c hc).2⟩
      · rw [e2 (r + 2) (by omega), e2 (r + 3) (by omega)]
        obtain ⟨fc, kc, t1, t2, t3, t4, t5, -⟩ := hTy T hT
        exact ⟨(hE.2.2.2.2.1 T hT).2.2.2, fc, t1, by omega⟩
    refine s_Search_findExample_45 ⟨(am_kk hB rfl), x_writeExample (W := F0 (r + 26)) hB hW (by rw [e2 r (by omega)]; exact g2) hE.2.2.2.1 (fun z hz => ⟨by rw [e2 (r + 26) (by omega)], W_ty hE hz⟩) ⟨by rw [e2 32 (by decide)]; exact hL.1, trivial⟩ (by rw [ewt]; exact cl) (fun I3 f3 l3 => ⟨rfl, s_Search_findExample_50 (post I3 (fun a g1 g2 g3 g4 => (f3 a g2 g3).trans (e2 a g4)) ((f3 31 (by decide) (by decide)).trans (e2 31 (by decide))) (fun h => absurd hSem h) (fun K2 hF2 _ => ?_))⟩)⟩
    rw [Fst_uniq 60 60 _ K2 K' hF2 hF, ← ewt]
    exact l3
  · refine s_Search_findExample_30 ⟨fun _ => s_Search_findExample_50 (post I1 (fun a g1 g2 g3 g4 => f1 a g4) (f1 31 (by decide)) (fun _ => ⟨by rw [f1 32 (by decide)]; exact hL.1, trivial⟩) (fun K2 _ h => absurd h hno)), fun h => absurd rfl h⟩
theorem x_reaches {ρ : Nat} (hB : am_B C R) (h : Sx I J r s ws N m wd nmL) (hk : sAk (Sa I J r m ws) ws.length I) (hρ : ρ < ws.length) (yes : ∀ I' : Nat → Nat → Int, (∀ a : Nat, a ≠ 40 → I' a = I a) → Sem (Sa I J r m ws) ws.length (twf I r) (vdf m) (Sg (rsg ws) ρ) (kfl (Sa I J r m ws ρ) (fun _ => -1)) → Q (some (.inl 1)) (n0, C, I', J, R)) (no : ∀ I' : Nat → Nat → Int, (∀ a : Nat, a ≠ 40 → I' a = I a) → ¬ Sem (Sa I J r m ws) ws.length (twf I r) (vdf m) (Sg (rsg ws) ρ) (kfl (Sa I J r m ws ρ) (fun _ => -1)) → Q (some (.inl 0)) (n0, C, I', J, R)) : am_WP (d + 72) (am_entry 119 [.inr (.inl 31), .inr (.inl r), .inl (ρ : Int)] (n0, C, I, J, R)) Q := by
  have hr := h.1
  obtain ⟨ns, hx, h38⟩ := hk
  have k0 : C r = .inl 5 := am_kq (i := 0) hB hr (by decide) rfl
  have hX := xE_of h hx h38
  obtain ⟨a1, a2, a3, a4, a5, a6, a7, a8⟩ := Sx_ok h
  obtain ⟨-, hE, hTy, w1, l0, l12, h60, ho, hf, hn, hn8, g2, g3, ⟨p, g4, gb⟩, g5, g6⟩ := h
  have ns60 : ns ≤ 60 := by have := hx.2.2.1; have := hx.2.2.2.1; omega
  have hq0 : rwq (Sa I J r m ws) ws.length (Sg (rsg ws) ρ) (fun _ => -1) (fun i => decide (i < ρ) && (decide (i < ws.length) && p i)) := by
    intro ρ' hρ'
    have hb := xw_bits_at ws 0 gb ρ'
    rw [Nat.zero_add] at hb
    constructor
    · intro e
      have e : ρ' < ρ ∧ ρ' < ws.length ∧ p ρ' = true := by simpa using e
      refine ⟨e.2.1, ⟨e.1, ?_⟩, fun x _ => Or.inl rfl⟩
      have := hb e.2.1
      rw [e.2.2] at this
      cases hh : rsg ws ρ'
      · rfl
      · rw [hh] at this; exact absurd this (by simp)
    · rintro ⟨e1, ⟨e0, e2⟩, -⟩
      have := hb e1
      rw [e2] at this
      show (decide (ρ' < ρ) && (decide (ρ' < ws.length) && p ρ')) = true
      rw [this]
      simp [e1, e0]
  have m4096 : mk p ws.length < 2147483648 := Nat.lt_of_lt_of_le (mk_lt p ws.length) (Nat.le_trans (Nat.pow_le_pow_right (by decide) l12) (by decide))
  have p4096 : 2 ^ ρ ≤ 4096 := Nat.pow_le_pow_right (n := 2) (by decide) (show ρ ≤ 12 by omega)
  have p1 : 1 ≤ 2 ^ ρ := Nat.one_le_two_pow
  obtain ⟨b1, b2⟩ := hX.2.1 ρ hρ
  obtain ⟨x7, x7'⟩ := hx.2.2.2.2.2.2.1 ρ (by omega)
  have b1 : I 38 ρ = (bgs (Sa I J r m ws) (min ρ ws.length) : Int) := b1
  have b2 : I 38 (ρ + 1) = ((bgs (Sa I J r m ws) (min ρ ws.length) + (Sa I J r m ws ρ).length : Nat) : Int) := b2
  have x7 : bgs (Sa I J r m ws) (min ρ ws.length) + (Sa I J r m ws ρ).length ≤ bgs (Sa I J r m ws) ws.length := x7
  have x7' : xal I ns (bgs (Sa I J r m ws) (min ρ ws.length)) (Sa I J r m ws ρ) := x7'
  generalize bgs (Sa I J r m ws) (min ρ ws.length) = b0 at b1 b2 x7 x7'
  have vd : ∀ x ∈ Sa I J r m ws ρ, vdf m x.2 := fun x hx => (a1.1 ρ hρ x hx).2.1
  have loop : ∀ (B P : List (Nat × Int)) (k : Nat) (K : Nat → Int) (q : Nat → Bool) (I1 : Nat → Nat → Int), Sa I J r m ws ρ = P ++ B → k + B.length = b0 + (Sa I J r m ws ρ).length → xal I ns k B → stK I ns K I1 → rwq (Sa I J r m ws) ws.length (Sg (rsg ws) ρ) K q → (∀ x : Nat, K x ≠ -1 → (x, K x) ∈ P) → kfl B K = kfl (Sa I J r m ws ρ) (fun _ => -1) → am_WP (d + 72) (119, 26, [.inr (.inl 31), .inr (.inl r), .inl (ρ : Int), .inl ((mk q 12 : Nat) : Int), .inl (k : Int)], [], (0, 0), n0, C, I1, J, R) Q := by
    intro B
    induction B with
    | nil =>
      intro P k K q I1 hB1 hkk hl hs hq hK he
      have hkk : k + 0 = b0 + (Sa I J r m ws ρ).length := hkk
      refine s_Search_reaches_26 ⟨(am_kk hB rfl), 34, (am_rf hB rfl), (am_kk hB rfl), 38, (am_rf hB rfl), am_ar_i (by omega) (by omega) ⟨_, (am_kk hB rfl), ⟨by omega, by omega⟩, am_nm_k ((congrFun (hs.1 38 (by decide)) (ρ + 1)).trans b2) ?_⟩⟩
      rintro _ rfl _ _
      have eK : K = kfl (Sa I J r m ws ρ) (fun _ => -1) := he
      obtain ⟨kc, kt⟩ := kfl_0 a1 hρ (a2 ρ hρ)
      rw [← eK] at kc kt yes no
      refine ⟨fun _ => ⟨k0, r + 1, am_rq (i := 0) hB hr rfl rfl, (am_kk hB rfl), XE_all (S := Sg (rsg ws) ρ) hB hr hX 60 K q (d + 71) 0 I1 _ kc kt (a8 _) (Nat.le_refl _) (by omega) hs hq (fun hS => ⟨_, rfl, s_Search_reaches_84 ⟨Or.inr rfl, yes I1 hs.1 hS⟩⟩) (fun hS => ⟨_, rfl, s_Search_reaches_84 ⟨Or.inl rfl, no I1 hs.1 hS⟩⟩)⟩, fun h => absurd h (by omega)⟩
    | cons x B ih =>
      intro P k K q I1 hB1 hkk hl hs hq hK he
      have hkk : k + (B.length + 1) = b0 + (Sa I J r m ws ρ).length := hkk
      obtain ⟨⟨i, i1, i2, i3⟩, i4, i5⟩ := hl
      have hxm : x ∈ Sa I J r m ws ρ := by rw [hB1]; simp
      have hkx : K x.1 = -1 ∨ K x.1 = x.2 := by
        rcases Classical.em (K x.1 = -1) with e | e
        · exact Or.inl e
        · exact Or.inr (a1.2.1 ρ hρ (x.1, K x.1) (by rw [hB1]; exact List.mem_append_left _ (hK x.1 e)) x hxm rfl)
      refine s_Search_reaches_26 ⟨(am_kk hB rfl), 34, (am_rf hB rfl), (am_kk hB rfl), 38, (am_rf hB rfl), am_ar_i (by omega) (by omega) ⟨_, (am_kk hB rfl), ⟨by omega, by omega⟩, am_nm_k ((congrFun (hs.1 38 (by decide)) (ρ + 1)).trans b2) ?_⟩⟩
      rintro _ rfl _ _
      refine ⟨fun h => absurd h (by omega), fun _ => ⟨(am_kk hB rfl), 34, (am_rf hB rfl), (am_kk hB rfl), 36, (am_rf hB rfl), _, (am_kk hB rfl), ⟨by omega, by omega⟩, am_nm_k ((congrFun (hs.1 36 (by decide)) k).trans i2) ?_⟩⟩
      rintro _ rfl _ _
      refine ⟨(am_kk hB rfl), 34, (am_rf hB rfl), (am_kk hB rfl), 37, (am_rf hB rfl), _, (am_kk hB rfl), ⟨by omega, by omega⟩, am_nm_k ((congrFun (hs.1 37 (by decide)) k).trans i4) (fun z hz _ _ => ?_)⟩
      rw [hz]
      refine ⟨(am_kk hB rfl), x_settle hB hX (stK_x hs) hq i1 i3 (vd x hxm) hkx (fun q' hq' hs' => ⟨_, rfl, s_Search_reaches_67 (am_ar_i (by omega) (by omega) ?_)⟩)⟩
      refine ih (P ++ [x]) (k + 1) (ku K x.1 x.2) q' _ (by rw [hB1, List.append_assoc]; rfl) (by omega) i5 hs' hq' (fun y hy => ?_) he
      by_cases e : y = x.1
      · rw [e, ku_eq]; exact List.mem_append_right _ (by simp)
      · rw [ku_ne e] at hy ⊢
        exact List.mem_append_left _ (hK y hy)
  refine e_Search_reaches ⟨(am_kk hB rfl), x_unsettle hB (fun I1 f1 u1 => ⟨rfl, ?_⟩)⟩
  have st1 : stK I ns (fun _ => -1) I1 := ⟨f1, fun i p' hi _ => u1 i (by omega)⟩
  have r4 : I1 r 4 = ((mk p ws.length : Nat) : Int) := by rw [f1 r (by omega)]; exact g4
  refine s_Search_reaches_4 ⟨k0, am_nm_k r4 ?_⟩
  rintro _ rfl _ _
  refine am_nm_k (am_shl1 (q := ρ) (by omega)) ?_
  rintro _ rfl _ _
  refine am_ar_i (by omega) (by omega) ?_
  rw [show (((2 ^ ρ : Nat) : Int)) - 1 = ((2 ^ ρ - 1 : Nat) : Int) by omega]
  refine am_nm_k ((am_andn m4096 (by omega)).trans (by rw [mk_lo12 l12])) ?_
  rintro _ rfl _ _
  refine ⟨(am_kk hB rfl), 34, (am_rf hB rfl), (am_kk hB rfl), 38, (am_rf hB rfl), _, (am_kk hB rfl), ⟨by omega, by omega⟩, am_nm_k ((congrFun (f1 38 (by decide)) ρ).trans b1) ?_⟩
  rintro _ rfl _ _
  exact loop (Sa I J r m ws ρ) [] b0 (fun _ => -1) _ I1 rfl rfl x7' st1 hq0 (fun x hx => absurd rfl hx) rfl
end XOF
