/-! MISSES, EXAMPLE, NEVER -/
section XFE
variable {d n : Nat} {K : Nat → am_K} {I J : Nat → Nat → Int} {R : Nat → Nat → Option Nat} {Q : am_Q} {r s : Nat} {ws : List rw0} {N m wd : Nat} {nmL : Nat → List Int}
theorem x_fe (hB : am_B K R) (h : R0 I J r s ws N m wd nmL) (hE : Ex I J r ws m wd nmL) (post : ∀ I' : Nat → Nat → Int, (∀ a : Nat, a ≠ 31 → a ≠ 32 → a ≠ 33 → a ≠ 40 → I' a = I a) → I' 31 3 = 1 → Ex1 I' J r ws m wd nmL → Q none (n, K, I', J, R)) : am_WP (d + 72) (am_entry 118 [.inr (.inl 31), .inr (.inl r)] (n, K, I, J, R)) Q := by
  have hr := h.1.1
  have hRq : ∀ I' : Nat → Nat → Int, (∀ a : Nat, a ≠ 31 → a ≠ 32 → a ≠ 33 → a ≠ 40 → I' a = I a) → Rq r s I I' J J := fun I' f => Rq_mk ⟨fun x a1 a2 => f x (by omega) (by omega) (by omega) (by omega), fun _ _ _ => rfl, fun x a1 a2 => f x (by omega) (by omega) (by omega) (by omega), fun a j a1 a2 => by rw [f a (by omega) (by omega) (by omega) (by omega)], rfl⟩
  have c01 : I 31 3 = 0 ∧ xl [] I ∨ I 31 3 = 1 := by
    rcases hE with ⟨-, -, a3, a4⟩ | ⟨-, -, K', -, -, a5⟩
    · rcases a4 with a4 | a4
      · exact Or.inl ⟨a4, a3⟩
      · exact Or.inr a4
    · rcases a5 with a5 | a5
      · exact Or.inl a5
      · exact Or.inr a5.1
  rcases c01 with ⟨c0, cl⟩ | c1
  · refine x_findExample hB h.1 h.2.2.1 c0 cl (fun I' f1 f2 f3 f4 => post I' f1 f2 ?_)
    have hq := hRq I' f1
    have e43 : I' 101 43 = I 101 43 := by rw [f1 101 (by decide) (by decide) (by decide) (by decide)]
    unfold Ex1
    rw [Sme_cg hq.1, e43]
    rcases hE with ⟨a1, a2, a3, a4⟩ | ⟨a1, a2, K', a3, a4, a5⟩
    · exact Or.inl ⟨a1, a2, f3 a1⟩
    · refine Or.inr ⟨a1, a2, K', by rw [Fse_cg hq.1]; exact a3, ?_, ?_⟩
      · rw [Txt_cg hq.1]
        exact ml_cg (by rw [f1 101 (by decide) (by decide) (by decide) (by decide)]) (f1 135 (by decide) (by decide) (by decide) (by decide)) a4
      · rw [Txt_cg hq.1]
        exact f4 K' a3 a1
  · refine e_Search_findExample ⟨(am_kk hB rfl), am_nm_k c1 ?_⟩
    rintro _ rfl _ _
    refine ⟨fun h => absurd h (by decide), fun _ => post I (fun _ _ _ _ _ => rfl) c1 ?_⟩
    rcases hE with ⟨a1, a2, a3, a4⟩ | ⟨a1, a2, K', a3, a4, a5⟩
    · exact Or.inl ⟨a1, a2, a3⟩
    · refine Or.inr ⟨a1, a2, K', a3, a4, ?_⟩
      rcases a5 with a5 | a5
      · omega
      · exact a5.2
theorem Txt_pos (h : R0 I J r s ws N m wd nmL) (K' : Nat → Int) : 0 < (Txt I r wd nmL K').length := by
  obtain ⟨hr, hE, hTy, w1, l0, l12, h60, ho, hrs, hn, hn8, -⟩ := h.1
  unfold Txt
  obtain ⟨k, rfl⟩ : ∃ k, wd = k + 1 := ⟨wd - 1, by omega⟩
  show 0 < (([] : List Int) ++ (wtx K' I (I (r + 8)) r nmL 6 (0 + 1) (I (r + 26) 0) ++ ext (wtx K' I (I (r + 8)) r nmL 6) (I (r + 26)) k (0 + 1))).length
  have := wtx_pos (K := K') (F := I) (aT := I (r + 8)) (r := r) (nmL := nmL) 6 (0 + 1) (I (r + 26) 0) (fun c => (hn8 c).1)
  rw [List.nil_append, List.length_append]
  omega
theorem Txt_len (h : R0 I J r s ws N m wd nmL) {K' : Nat → Int} (hF : Fse I J r ws m K') : (Txt I r wd nmL K').length ≤ 1200 := by
  obtain ⟨a1, a2, a3, a4, a5, a6, a7, a8⟩ := Sx_ok h.1
  obtain ⟨hr, hE, hTy, w1, l0, l12, h60, ho, hrs, hn, hn8, -⟩ := h.1
  obtain ⟨Ic, hC⟩ := cE_of hE hTy
  have hj := Fst_jst a1 hC a3 a2 l12 60 _ K' hF clo_0 typ_0 jst_0
  exact (cols_all (nmL := nmL) hE hTy (by decide) hC ho hrs h60 hj (fun c => (hn8 c).2)).2
end XFE
section OKM
variable {L : Nat} {xs : Nat → Int}
theorem Rs_fe {n : Nat} {K : Nat → am_K} {I I' J : Nat → Nat → Int} {R : Nat → Nat → Option Nat} {r s : Nat} {ws : List rw0} {N m wd : Nat} {nmL : Nat → List Int} (hI : am_Iv Rs L xs (n, K, I, J, R)) (h4 : R 11 4 = some r) (h14 : I 101 14 = (s : Int)) (h0 : R0 I J r s ws N m wd nmL) (hN : Nv I J r ws m) (f1 : ∀ a : Nat, a ≠ 31 → a ≠ 32 → a ≠ 33 → a ≠ 40 → I' a = I a) (f2 : I' 31 3 = 1) (f3 : Ex1 I' J r ws m wd nmL) : am_Iv Rs L xs (n, K, I', J, R) := by
  refine Iv_sc hI (fun a j g1 g2 g3 => by rw [f1 a (by omega) (by omega) (by omega) (by omega)]) (fun r1 s1 q4 qs q14 _ => ?_)
  have er : r1 = r := by rw [h4] at q4; exact (Option.some.inj q4).symm
  have es : s1 = s := by omega
  subst er
  subst es
  have hr := h0.1.1
  have hq : Rq r1 s1 I I' J J := Rq_mk ⟨fun x a1 a2 => f1 x (by omega) (by omega) (by omega) (by omega), fun _ _ _ => rfl, fun x a1 a2 => f1 x (by omega) (by omega) (by omega) (by omega), fun a j a1 a2 => by rw [f1 a (by omega) (by omega) (by omega) (by omega)], rfl⟩
  exact ⟨ws, N, m, wd, nmL, R0_fr hq h0, Ex_of1 f2 f3, Nv_fr hq (f1 129 (by decide) (by decide) (by decide) (by decide)) hN⟩
theorem ok_misses : am_ok L xs (am_Iv Rs L xs) 13 75 [] := by
  rintro ⟨n, C, I, J, R⟩ hIv
  have hIv0 := hIv
  obtain ⟨⟨hB, hK0, hI0⟩, hT, hp, r, r', h4, h5, hrr, hc⟩ := hIv
  have hb0 : am_bs L xs (n, C, I, J, R) := ⟨hB, hK0, hI0⟩
  have h4 : R 11 4 = some r := h4
  have hr : r = 41 ∨ r = 71 := hrr.imp And.left And.left
  replace hc : I 11 6 = 0 ∧ I 101 14 = -1 ∨ I 11 6 = 1 ∧ ∃ s : Nat, s < 2 ∧ I 101 14 = (s : Int) ∧ am_Cn I r s ∧ am_Lk I ∧ Rs I J r s := hc
  rcases hc with ⟨h6, h14⟩ | ⟨h6, s, hs, h14, hC, hL, ws, N, m, wd, nmL, h0, hE, hN⟩
  · refine e_X_misses ⟨(am_kk hB rfl), am_nm_k h6 ?_⟩
    rintro _ rfl _ _
    refine ⟨fun h => absurd rfl h, fun _ => ⟨_, rfl, hb0, e_M_misses ⟨(am_kk hB rfl), am_nm_k h14 ?_⟩⟩⟩
    rintro _ rfl _ _
    exact ⟨fun h => absurd h (by decide), fun _ => s_M_misses_23 ⟨rfl, hIv0⟩⟩
  · have k0 : C r = .inl 5 := am_kq (i := 0) hB hr (by decide) rfl
    refine e_X_misses ⟨(am_kk hB rfl), am_nm_k h6 ?_⟩
    rintro _ rfl _ _
    refine ⟨fun _ => ⟨(am_kk hB rfl), 31, (am_rf hB rfl), (am_kk hB rfl), r, h4, (am_kk hB rfl), x_fe (d := 1226) hB h0 hE (fun I1 f1 f2 f3 => ⟨rfl, ?_⟩)⟩, fun h => absurd h (by decide)⟩
    have hIv1 := Rs_fe hIv0 h4 h14 h0 hN f1 f2 f3
    have hb1 := hIv1.1
    have e14 : I1 101 14 = (s : Int) := by rw [f1 101 (by decide) (by decide) (by decide) (by decide)]; exact h14
    have hr0 : Rq r s I I1 J J := Rq_mk ⟨fun x a1 a2 => f1 x (by omega) (by omega) (by omega) (by omega), fun _ _ _ => rfl, fun x a1 a2 => f1 x (by omega) (by omega) (by omega) (by omega), fun a j a1 a2 => by rw [f1 a (by omega) (by omega) (by omega) (by omega)], rfl⟩
    have h01 := R0_fr hr0 h0
    have mm : ∀ z : Int, I1 101 43 = z → (z = 0 ∨ z = 1) → am_WP 1299 (am_entry 75 [.inr (.inl 101)] (n, C, I1, J, R)) (fun v2 σ2 => v2 = some (.inl z) ∧ am_Iv Rs L xs σ2) := by
      intro z hz h01
      refine e_M_misses ⟨(am_kk hB rfl), am_nm_k e14 ?_⟩
      rintro _ rfl _ _
      refine ⟨fun _ => ⟨(am_kk hB rfl), am_nm_k hz (fun y hy _ _ => ⟨fun h => s_M_misses_23 ⟨?_, hIv1⟩, fun h => s_M_misses_23 ⟨?_, hIv1⟩⟩)⟩, fun h => absurd h (by omega)⟩
      · rw [← hy, h]
      · rw [show z = 1 by omega]
    rcases f3 with ⟨a1, a2, a3⟩ | ⟨a1, a2, K', a3, a4, a5⟩
    · refine s_X_misses_20 ⟨(am_kk hB rfl), 31, (am_rf hB rfl), (am_kk hB rfl), 32, (am_rf hB rfl), (am_kk hB rfl), am_nm_k a3.1 ?_⟩
      rintro _ rfl _ _
      exact ⟨fun _ => s_X_misses_38 ⟨_, rfl, hb1, mm 0 a2 (Or.inl rfl)⟩, fun h => absurd h (by decide)⟩
    · have tp := Txt_pos h01 K'
      refine s_X_misses_20 ⟨(am_kk hB rfl), 31, (am_rf hB rfl), (am_kk hB rfl), 32, (am_rf hB rfl), (am_kk hB rfl), am_nm_k a5.1 ?_⟩
      rintro _ rfl _ _
      exact ⟨fun h => absurd h (by omega), fun _ => s_X_misses_38 ⟨_, rfl, hb1, mm 1 a2 (Or.inr rfl)⟩⟩
theorem ok_example (x : Int) (_ : -2147483648 ≤ x ∧ x ≤ 2147483647) : am_ok L xs (am_Iv Rs L xs) 14 76 [.inl x] := by
  rintro ⟨n, C, I, J, R⟩ hIv
  have hIv0 := hIv
  obtain ⟨⟨hB, hK0, hI0⟩, hT, hp, r, r', h4, h5, hrr, hc⟩ := hIv
  have hb0 : am_bs L xs (n, C, I, J, R) := ⟨hB, hK0, hI0⟩
  have h4 : R 11 4 = some r := h4
  have hr : r = 41 ∨ r = 71 := hrr.imp And.left And.left
  replace hc : I 11 6 = 0 ∧ I 101 14 = -1 ∨ I 11 6 = 1 ∧ ∃ s : Nat, s < 2 ∧ I 101 14 = (s : Int) ∧ am_Cn I r s ∧ am_Lk I ∧ Rs I J r s := hc
  rcases hc with ⟨h6, h14⟩ | ⟨h6, s, hs, h14, hC, hL, ws, N, m, wd, nmL, h0, hE, hN⟩
  · refine e_X_example ⟨(am_kk hB rfl), am_nm_k h6 ?_⟩
    rintro _ rfl _ _
    refine ⟨fun h => absurd rfl h, fun _ => ⟨_, rfl, hb0, e_M_example ⟨(am_kk hB rfl), am_nm_k h14 ?_⟩⟩⟩
    rintro _ rfl _ _
    exact ⟨fun _ => s_M_example_36 ⟨rfl, hIv0⟩, fun h => absurd h (by decide)⟩
  · have k0 : C r = .inl 5 := am_kq (i := 0) hB hr (by decide) rfl
    refine e_X_example ⟨(am_kk hB rfl), am_nm_k h6 ?_⟩
    rintro _ rfl _ _
    refine ⟨fun _ => ⟨(am_kk hB rfl), 31, (am_rf hB rfl), (am_kk hB rfl), r, h4, (am_kk hB rfl), x_fe (d := 1226) hB h0 hE (fun I1 f1 f2 f3 => ⟨rfl, ?_⟩)⟩, fun h => absurd h (by decide)⟩
    have hIv1 := Rs_fe hIv0 h4 h14 h0 hN f1 f2 f3
    have hb1 := hIv1.1
    have e14 : I1 101 14 = (s : Int) := by rw [f1 101 (by decide) (by decide) (by decide) (by decide)]; exact h14
    have hr0 : Rq r s I I1 J J := Rq_mk ⟨fun x a1 a2 => f1 x (by omega) (by omega) (by omega) (by omega), fun _ _ _ => rfl, fun x a1 a2 => f1 x (by omega) (by omega) (by omega) (by omega), fun a j a1 a2 => by rw [f1 a (by omega) (by omega) (by omega) (by omega)], rfl⟩
    have h01 := R0_fr hr0 h0
    rcases f3 with ⟨a1, a2, a3⟩ | ⟨a1, a2, K', a3, a4, a5⟩
    · have mm : am_WP 1299 (am_entry 76 [.inr (.inl 101), .inl x] (n, C, I1, J, R)) (fun v2 σ2 => v2 = some (.inl (-1)) ∧ am_Iv Rs L xs σ2) := by
        refine e_M_example ⟨(am_kk hB rfl), am_nm_k e14 ?_⟩
        rintro _ rfl _ _
        refine ⟨fun h => absurd h (by omega), fun _ => ⟨(am_kk hB rfl), am_nm_k a2 ?_⟩⟩
        rintro _ rfl _ _
        exact ⟨fun _ => s_M_example_36 ⟨rfl, hIv1⟩, fun h => absurd rfl h⟩
      refine s_X_example_20 ⟨fun _ => s_X_example_54 ⟨_, rfl, hb1, mm⟩, fun hx => ⟨(am_kk hB rfl), 31, (am_rf hB rfl), (am_kk hB rfl), 32, (am_rf hB rfl), (am_kk hB rfl), am_nm_k a3.1 ?_⟩⟩
      rintro _ rfl _ _
      refine ⟨fun _ => s_X_example_54 ⟨_, rfl, hb1, mm⟩, fun h => absurd h ?_⟩
      show ¬ x < ((0 : Nat) : Int)
      omega
    · have tl := Txt_len h01 a3
      have mm : ∀ z : Int, (x < 0 ∨ ((Txt I1 r wd nmL K').length : Int) ≤ x → z = -1) → (0 ≤ x → x < ((Txt I1 r wd nmL K').length : Int) → z = I1 135 x.toNat) → am_WP 1299 (am_entry 76 [.inr (.inl 101), .inl x] (n, C, I1, J, R)) (fun v2 σ2 => v2 = some (.inl z) ∧ am_Iv Rs L xs σ2) := by
        intro z z1 z2
        refine e_M_example ⟨(am_kk hB rfl), am_nm_k e14 ?_⟩
        rintro _ rfl _ _
        refine ⟨fun h => absurd h (by omega), fun _ => ⟨(am_kk hB rfl), am_nm_k a2 ?_⟩⟩
        rintro _ rfl _ _
        refine ⟨fun h => absurd h (by decide), fun _ => ⟨fun h => s_M_example_36 ⟨by rw [z1 (Or.inl h)], hIv1⟩, fun h => ⟨(am_kk hB rfl), am_nm_k a4.1 (fun y hy _ _ => ⟨fun hlt => ⟨(am_kk hB rfl), 135, (am_rf hB rfl), _, Or.inr (am_kk hB rfl), ⟨h, by omega⟩, fun w hw _ _ => s_M_example_36 ⟨?_, hIv1⟩⟩, fun hle => s_M_example_36 ⟨?_, hIv1⟩⟩)⟩⟩⟩
        · rw [hw, z2 h (by omega)]
        · rw [z1 (Or.inr (by omega))]
      have k33 := a5.2
      have k135 := a4.2
      refine s_X_example_20 ⟨fun h => s_X_example_54 ⟨_, rfl, hb1, mm _ (fun _ => rfl) (fun h1 => absurd h1 (by omega))⟩, fun hx => ⟨(am_kk hB rfl), 31, (am_rf hB rfl), (am_kk hB rfl), 32, (am_rf hB rfl), (am_kk hB rfl), am_nm_k a5.1 (fun y hy _ _ => ⟨fun hle => s_X_example_54 ⟨_, rfl, hb1, mm _ (fun _ => rfl) (fun h1 h2 => absurd h2 (by omega))⟩, fun hlt => ⟨(am_kk hB rfl), 31, (am_rf hB rfl), (am_kk hB rfl), 32, (am_rf hB rfl), (am_kk hB rfl), 33, (am_rf hB rfl), _, (am_kk hB rfl), ⟨hx, by omega⟩, fun w hw _ _ => s_X_example_54 ⟨_, rfl, hb1, mm _ (fun h => absurd h (by omega)) (fun h1 h2 => ?_)⟩⟩⟩)⟩⟩
      obtain ⟨j, hj⟩ : ∃ j : Nat, x = (j : Int) := ⟨x.toNat, by omega⟩
      subst hj
      have hjl : j < (Txt I1 r wd nmL K').length := by omega
      have q1 := lkI_at _ 0 j k33 hjl
      have q2 := lkI_at _ 0 j k135 hjl
      rw [Nat.zero_add] at q1 q2
      rw [hw]
      show I1 33 j = I1 135 j
      rw [q1, q2]
theorem ok_never (x : Int) (_ : -2147483648 ≤ x ∧ x ≤ 2147483647) : am_ok L xs (am_Iv Rs L xs) 15 77 [.inl x] := by
  rintro ⟨n, C, I, J, R⟩ hIv
  have hIv0 := hIv
  obtain ⟨⟨hB, hK0, hI0⟩, hT, hp, r, r', h4, h5, hrr, hc⟩ := hIv
  have hb0 : am_bs L xs (n, C, I, J, R) := ⟨hB, hK0, hI0⟩
  have h4 : R 11 4 = some r := h4
  have hr : r = 41 ∨ r = 71 := hrr.imp And.left And.left
  replace hc : I 11 6 = 0 ∧ I 101 14 = -1 ∨ I 11 6 = 1 ∧ ∃ s : Nat, s < 2 ∧ I 101 14 = (s : Int) ∧ am_Cn I r s ∧ am_Lk I ∧ Rs I J r s := hc
  rcases hc with ⟨h6, h14⟩ | ⟨h6, s, hs, h14, hC, hL, ws, N, m, wd, nmL, h0, hE, hN⟩
  · refine e_X_never ⟨(am_kk hB rfl), am_nm_k h6 ?_⟩
    rintro _ rfl _ _
    refine ⟨fun _ => ⟨_, rfl, hb0, e_M_never ⟨(am_kk hB rfl), am_nm_k h14 ?_⟩⟩, fun h => absurd rfl h⟩
    rintro _ rfl _ _
    exact ⟨fun _ => ⟨rfl, hIv0⟩, fun h => absurd h (by decide)⟩
  · have k0 : C r = .inl 5 := am_kq (i := 0) hB hr (by decide) rfl
    have g3 : I r 3 = (ws.length : Int) := h0.1.2.2.2.2.2.2.2.2.2.2.2.2.1
    have l12 : ws.length ≤ 12 := h0.1.2.2.2.2.2.1
    have out : (x < 0 ∨ (ws.length : Int) ≤ x) → am_WP 1299 (am_entry 77 [.inr (.inl 101), .inl x] (n, C, I, J, R)) (fun v2 σ2 => v2 = some (.inl (-1)) ∧ am_Iv Rs L xs σ2) := by
      intro hx
      refine e_M_never ⟨(am_kk hB rfl), am_nm_k h14 ?_⟩
      rintro _ rfl _ _
      refine ⟨fun h => absurd h (by omega), fun _ => ⟨fun _ => ⟨rfl, hIv0⟩, fun h => ⟨(am_kk hB rfl), 116, (am_rf hB rfl), (am_kk hB rfl), am_nm_k h14 ?_⟩⟩⟩
      rintro _ rfl _ _
      refine ⟨_, (am_kk hB rfl), ⟨by omega, by omega⟩, am_nm_k h0.2.2.2.2.2.1 ?_⟩
      rintro _ rfl _ _
      exact ⟨fun h => absurd h (by omega), fun _ => ⟨rfl, hIv0⟩⟩
    refine e_X_never ⟨(am_kk hB rfl), am_nm_k h6 ?_⟩
    rintro _ rfl _ _
    refine ⟨fun h => absurd h (by decide), fun _ => ⟨fun hx => ⟨_, rfl, hb0, out (Or.inl hx)⟩, fun hx => ⟨(am_kk hB rfl), r, h4, k0, am_nm_k g3 ?_⟩⟩⟩
    rintro _ rfl _ _
    refine ⟨fun hlt => ⟨(am_kk hB rfl), 31, (am_rf hB rfl), (am_kk hB rfl), r, h4, (am_kk hB rfl), ?_⟩, fun hge => ⟨_, rfl, hb0, out (Or.inr hge)⟩⟩
    obtain ⟨ρ, rfl⟩ : ∃ ρ : Nat, x = (ρ : Int) := ⟨x.toNat, by omega⟩
    have hρ : ρ < ws.length := by omega
    have rq : ∀ I1 : Nat → Nat → Int, (∀ a : Nat, a ≠ 40 → I1 a = I a) → Rq r s I I1 J J := fun I1 f1 => Rq_mk ⟨fun x a1 a2 => f1 x (by omega), fun _ _ _ => rfl, fun x a1 a2 => f1 x (by omega), fun a j a1 a2 => by rw [f1 a (by omega)], rfl⟩
    -- the reference, from what the class has left
    have mm : ∀ (I1 : Nat → Nat → Int) (z : Int), (∀ a : Nat, a ≠ 40 → I1 a = I a) → (Sme I J r ws m (Sg (rsg ws) ρ) (kfl (Sa I J r m ws ρ) (fun _ => -1)) → z = 0) → (¬ Sme I J r ws m (Sg (rsg ws) ρ) (kfl (Sa I J r m ws ρ) (fun _ => -1)) → z = 1) → am_WP 1299 (am_entry 77 [.inr (.inl 101), .inl (ρ : Int)] (n, C, I1, J, R)) (fun v2 σ2 => v2 = some (.inl z) ∧ am_Iv Rs L xs σ2) := by
      intro I1 z f1 z1 z2
      have hq := rq I1 f1
      have h01 := R0_fr hq h0
      have hE1 : Ex I1 J r ws m wd nmL := Ex_fr hq (by rw [f1 101 (by decide)]) (by rw [f1 101 (by decide)]) (f1 _ (by decide)) (by rw [f1 31 (by decide)]) (by rw [f1 32 (by decide)]) (f1 _ (by decide)) hE
      have hN1 : Nv I1 J r ws m := Nv_fr hq (f1 _ (by decide)) hN
      have hIv1 : am_Iv Rs L xs (n, C, I1, J, R) := Iv_sc hIv0 (fun a j g1 _ _ => by rw [f1 a (by omega)]) (fun r1 s1 q4 qs q14 _ => by
        have er : r1 = r := by rw [h4] at q4; exact (Option.some.inj q4).symm
        have es : s1 = s := by omega
        subst er
        subst es
        exact ⟨ws, N, m, wd, nmL, h01, hE1, hN1⟩)
      rw [← Sme_cg hq.1, ← Sa_rq hq.1] at z1 z2
      have e14 : I1 101 14 = (s : Int) := by rw [f1 101 (by decide)]; exact h14
      have memo : ∀ v : Int, I1 129 ρ = v → 0 ≤ v → z = v → am_WP 1299 (am_entry 77 [.inr (.inl 101), .inl (ρ : Int)] (n, C, I1, J, R)) (fun v2 σ2 => v2 = some (.inl z) ∧ am_Iv Rs L xs σ2) := by
        intro v hv v0 hz
        refine e_M_never ⟨(am_kk hB rfl), am_nm_k e14 ?_⟩
        rintro _ rfl _ _
        refine ⟨fun h => absurd h (by omega), fun _ => ⟨fun h => absurd h (by omega), fun h => ⟨(am_kk hB rfl), 116, (am_rf hB rfl), (am_kk hB rfl), am_nm_k e14 ?_⟩⟩⟩
        rintro _ rfl _ _
        refine ⟨_, (am_kk hB rfl), ⟨by omega, by omega⟩, am_nm_k h01.2.2.2.2.2.1 ?_⟩
        rintro _ rfl _ _
        refine ⟨fun _ => ⟨(am_kk hB rfl), 129, (am_rf hB rfl), _, (am_kk hB rfl), ⟨by omega, by omega⟩, am_nm_k hv (fun y hy _ _ => ⟨fun h => absurd h (by omega), fun _ => ⟨(am_kk hB rfl), 129, (am_rf hB rfl), _, (am_kk hB rfl), ⟨by omega, by omega⟩, am_nm_k hv (fun y2 hy2 _ _ => ⟨?_, hIv1⟩)⟩⟩)⟩, fun h => absurd h (by omega)⟩
        rw [hy2, hz]
      rcases hN1 ρ hρ with e | e | e
      · have fin : ∀ (I2 : Nat → Nat → Int), mn_fr ρ I1 I2 → I2 129 ρ = z → (z = 0 ∧ Sme I1 J r ws m (Sg (rsg ws) ρ) (kfl (Sa I1 J r m ws ρ) (fun _ => -1)) ∨ z = 1 ∧ ¬ Sme I1 J r ws m (Sg (rsg ws) ρ) (kfl (Sa I1 J r m ws ρ) (fun _ => -1))) → am_Iv Rs L xs (n, C, I2, J, R) := by
          intro I2 f2 e2 hz
          have e0 : ∀ a : Nat, a ≠ 101 → a ≠ 128 → a ≠ 129 → ¬ (a = 130 ∨ a = 131 ∨ a = 133 ∨ a = 134) → I2 a = I1 a := fun a g1 g2 g3 g4 => funext fun j => f2 a j (by omega) g2 g4 (by omega)
          have hq2 : Rq r s I1 I2 J J := Rq_mk ⟨fun x a1 a2 => e0 x (by omega) (by omega) (by omega) (by omega), fun _ _ _ => rfl, fun x a1 a2 => e0 x (by omega) (by omega) (by omega) (by omega), fun a j a1 a2 => by rw [e0 a (by omega) (by omega) (by omega) (by omega)], rfl⟩
          refine Iv_sc hIv1 (fun a j g1 g2 g3 => f2 a j (by omega) (by omega) (by omega) (by omega)) (fun r1 s1 q4 qs q14 _ => ?_)
          have er : r1 = r := by rw [h4] at q4; exact (Option.some.inj q4).symm
          have es : s1 = s := by omega
          subst er
          subst es
          refine ⟨ws, N, m, wd, nmL, R0_fr hq2 h01, Ex_fr hq2 (f2 _ _ (by decide) (by decide) (by decide) (by omega)) (f2 _ _ (by decide) (by decide) (by decide) (by omega)) (e0 _ (by decide) (by decide) (by decide) (by decide)) (f2 _ _ (by decide) (by decide) (by decide) (by omega)) (f2 _ _ (by decide) (by decide) (by decide) (by omega)) (e0 _ (by decide) (by decide) (by decide) (by decide)) hE1, fun ρ' hρ' => ?_⟩
          rw [Sme_cg hq2.1, Sa_rq hq2.1]
          by_cases e : ρ' = ρ
          · subst e
            rw [e2]
            rcases hz with hz | hz
            · exact Or.inr (Or.inr hz)
            · exact Or.inr (Or.inl hz)
          · rw [f2 129 ρ' (by omega) (by decide) (by decide) (by omega)]
            exact hN1 ρ' hρ'
        exact m_never (d := 1295) hB h01.1 h01.2.2.2 e14 hρ e (fun I2 f2 e2 hS => ⟨by rw [z1 hS], fin I2 f2 (by rw [z1 hS]; exact e2) (Or.inl ⟨z1 hS, hS⟩)⟩) (fun I2 f2 e2 hS => ⟨by rw [z2 hS], fin I2 f2 (by rw [z2 hS]; exact e2) (Or.inr ⟨z2 hS, hS⟩)⟩)
      · exact memo 1 e.1 (by decide) (z2 e.2)
      · exact memo 0 e.1 (by decide) (z1 e.2)
    refine x_reaches (d := 1226) hB h0.1 h0.2.2.1 hρ (fun I1 f1 hS => ⟨_, rfl, s_X_never_36 ⟨fun h => absurd h (by decide), fun _ => s_X_never_44 ⟨_, rfl, bs_fr hb0 (fun a j ha => by rw [f1 a (by omega)]), mm I1 0 f1 (fun _ => rfl) (fun h => absurd hS h)⟩⟩⟩) (fun I1 f1 hS => ⟨_, rfl, s_X_never_36 ⟨fun _ => s_X_never_44 ⟨_, rfl, bs_fr hb0 (fun a j ha => by rw [f1 a (by omega)]), mm I1 1 f1 (fun h => absurd h hS) (fun _ => rfl)⟩, fun h => absurd rfl h⟩⟩)
end OKM
