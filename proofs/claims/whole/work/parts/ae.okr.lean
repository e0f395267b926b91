/-! RUN: both sides -/
theorem tk_pl {I0 I J : Nat → Nat → Int} {len c : Nat} (h : tk_fin I0 I J len c) : (∀ k : Nat, k ≤ c → 0 ≤ I 16 k) ∧ c ≤ len := by
  obtain ⟨p, ⟨ps, qs, r0, rc, rk⟩, hnb, hp, hend, -, -, hcl⟩ := h
  refine ⟨fun k hk => ?_, hcl⟩
  by_cases e : k = c
  · subst e; omega
  · have := (rk k (by omega)).2.2.2.1
    omega
theorem mt_of {I0 Ib J1 : Nat → Nat → Int} {xs : Nat → Int} {len c : Nat} (hC : ∀ a j : Nat, a < 11 → I0 a j = am_Zi xs a j) (hX : tk_fin I0 Ib J1 len c) (hL : len ≤ 1200) : ∀ (I' J' : Nat → Nat → Int) (t : Nat), tm_fin (I0 14) I' J' len t → mt_T I' J' (Ib 15) (Ib 16) (Ib 17) (J1 18) c := by
  intro I' J' t hM
  obtain ⟨-, h1, h2, h3⟩ := tk_all hC hX hM
  have := (tk_pl hX).2
  exact ⟨h3, by omega, fun k hk => ⟨(h1 k hk).2, (h1 k hk).1⟩, h2⟩
theorem ft_sp_okl {kd pl nu nm : Nat → Int} {v : Bool} {c n : Nat} (hR : ft_R kd nu c) (hP : ∀ k : Nat, k ≤ c → 0 ≤ pl k) (hk : ∀ k : Nat, k < c → kd k ≠ 0 ∧ kd k ≠ 1) (he : kd c = 0 ∨ kd c = 1) : ∀ (ts : List (tm n)) (i j : Nat), i ≤ c → ls_sp (ft_sp kd pl nu nm v n) i ts j → (∀ t ∈ ts, tm_ok n t) ∧ j ≤ c := by
  intro ts
  induction ts with
  | nil =>
    intro i j hi h
    have e : i = j := h
    exact ⟨fun t ht => absurd ht (by simp), by omega⟩
  | cons u ts ih =>
    intro i j hi h
    obtain ⟨q, h1, h2⟩ := h
    obtain ⟨a1, a2⟩ := ft_sp_ok hR hP hk he n i q u hi h1
    obtain ⟨b1, b2⟩ := ih q j a2 h2
    refine ⟨fun t ht => ?_, b2⟩
    rcases List.mem_cons.mp ht with e | e
    · rw [e]; exact a1
    · exact b1 t e
theorem lk_both {I : Nat → Nat → Int} {L : List Nat} (hl : L.length ≤ 60) (h1 : lkS I L) (h2 : I 101 40 = (L.length : Int)) (h3 : lk (I 127) 0 L) : am_Lk I := by
  refine ⟨by rw [h1.1]; omega, by rw [h1.1]; omega, by rw [h1.1, h2], fun j hj => ?_⟩
  rw [h1.1] at hj
  have hj' : j < L.length := by omega
  have a := lk_get L 0 j h1.2 hj'
  have b := lk_get L 0 j h3 hj'
  rw [Nat.zero_add] at a b
  rw [a, b]
section OKR
variable {L : Nat} {xs : Nat → Int}
theorem ok_run (x : Int) (_ : -2147483648 ≤ x ∧ x ≤ 2147483647) : am_ok L xs (am_Iv Rs L xs) 10 56 [.inl x] := by
  rintro ⟨n, C, I, J, R⟩ hIv
  have hIv0 := hIv
  obtain ⟨⟨hB, hK0, hI0⟩, hT, hp, r, r', h4, h5, hrr, hc⟩ := hIv
  have hb0 : am_bs L xs (n, C, I, J, R) := ⟨hB, hK0, hI0⟩
  have h4 : R 11 4 = some r := h4
  have hr : r = 41 ∨ r = 71 := hrr.imp And.left And.left
  replace hc : I 11 6 = 0 ∧ I 101 14 = -1 ∨ I 11 6 = 1 ∧ ∃ s : Nat, s < 2 ∧ I 101 14 = (s : Int) ∧ am_Cn I r s ∧ am_Lk I ∧ Rs I J r s := hc
  rcases hc with ⟨h6, h14⟩ | ⟨h6, s, hs, h14, hCn, hLk, ws, N, m, wd, nmL, h0, hE, hN⟩
  · refine e_X_run ⟨(am_kk hB rfl), am_nm_k h6 ?_⟩
    rintro _ rfl _ _
    refine ⟨fun h => absurd rfl h, fun _ => ⟨_, rfl, hb0, e_M_run ⟨(am_kk hB rfl), am_nm_k h14 ?_⟩⟩⟩
    rintro _ rfl _ _
    exact ⟨fun h => absurd h (by decide), fun _ => ⟨rfl, hIv0⟩⟩
  · obtain ⟨t0, t1, t2, t3⟩ := hT
    have t0 : 0 ≤ I 13 1 := t0
    have t1 : I 13 1 ≤ 1200 := t1
    have t2 : I 101 1 = I 13 1 := t2
    have t3 : ∀ j : Nat, (j : Int) < I 13 1 → I 14 j = I 102 j % 256 := t3
    obtain ⟨len, hlen⟩ : ∃ len : Nat, I 13 1 = (len : Int) := ⟨(I 13 1).toNat, by omega⟩
    have hL : len ≤ 1200 := by omega
    have hby : ∀ j : Nat, j < len → 0 ≤ I 14 j ∧ I 14 j ≤ 255 := fun j hj => by
      rw [t3 j (by omega)]; omega
    have k0 : C r = .inl 5 := am_kq (i := 0) hB hr (by decide) rfl
    have hI0' : ∀ a j : Nat, a < 11 → I a j = am_Zi xs a j := hI0
    refine e_X_run ⟨(am_kk hB rfl), am_nm_k h6 ?_⟩
    rintro _ rfl _ _
    refine ⟨fun _ => ⟨(am_kk hB rfl), 29, (am_rf hB rfl), (am_kk hB rfl), e_Trial_forget ⟨⟨by decide, (am_kk hB rfl)⟩, rfl, s_X_run_16 ⟨(am_kk hB rfl), 12, (am_rf hB rfl), (am_kk hB rfl), 19, (am_rf hB rfl), (am_kk hB rfl), ?_⟩⟩⟩, fun h => absurd h (by decide)⟩
    have ea : ∀ a j : Nat, ¬ (a = 29 ∧ j = 0) → am_u I 29 0 0 a j = I a j := fun a j h => am_u_off h
    have ia : am_u I 29 0 0 29 0 = 0 := am_u_kk
    generalize am_u I 29 0 0 = Ia at ea ia ⊢
    have eb : ∀ a : Nat, a ≠ 29 → Ia a = I a := fun a h => funext fun j => ea a j (by omega)
    -- what the reference starts from
    have pre : ∀ (I0 I5 : Nat → Nat → Int), (∀ a : Nat, a < 19 → I0 a = Ia a) → (∀ a j : Nat, 101 ≤ a → I5 a j = I a j) → I5 101 14 = (s : Int) ∧ I5 101 1 = (len : Int) ∧ (∀ j : Nat, j < len → I5 102 j % 256 = I0 14 j) ∧ (∀ j : Nat, j < len → 0 ≤ I0 14 j ∧ I0 14 j ≤ 255) ∧ ∀ a j : Nat, a < 11 → I0 a j = am_Zi xs a j := by
      intro I0 I5 e0 e5
      have e14 : I0 14 = I 14 := (e0 14 (by decide)).trans (eb 14 (by decide))
      refine ⟨(e5 _ _ (by decide)).trans h14, (e5 _ _ (by decide)).trans (t2.trans hlen), fun j hj => ?_, fun j hj => ?_, fun a j ha => ?_⟩
      · rw [e5 _ _ (by decide), e14, t3 j (by omega)]
      · rw [e14]; exact hby j hj
      · rw [e0 a (by omega), eb a (by omega)]; exact hI0' a j ha
    refine x_readValues (d := 1265) (len := len) (xs := xs) hB (fun a j ha => (ea a j (by omega)).trans (hI0' a j ha)) ((ea _ _ (by decide)).trans hlen) hL (by rw [eb 14 (by decide)]; exact hby) (fun I0 Ib J1 I2 J2 c ts e0 hfin hR hT2 fr2 l2 hsp h190 h191 hH => ⟨_, rfl, ?_⟩) (fun I0 Ib J1 I2 J2 c k e0 hfin hT2 fr2 l2 hbd hkc => ⟨_, rfl, ?_⟩)
    · have hokt : ∀ t ∈ ts, tm_ok 6 t := by
        obtain ⟨-, ⟨j, q1, -⟩, -⟩ := hsp
        exact (ft_sp_okl hR (tk_pl hfin).1 hT2.2.2.2.2.2.2.1 hT2.2.2.2.2.2.2.2 ts 0 j (Nat.zero_le _) q1).1
      have hvk : ∀ t ∈ ts, vk 6 t := by
        obtain ⟨-, ⟨j, q1, -⟩, -⟩ := hsp
        exact ls_sp_all (ft_sp_vk 6) ts 0 j q1
      refine s_X_run_27 ⟨(am_kk hB rfl), 12, (am_rf hB rfl), (am_kk hB rfl), 13, (am_rf hB rfl), (am_kk hB rfl), am_nm_k l2 ?_⟩
      rintro _ rfl _ _
      have e3 : ∀ a j : Nat, a ≠ 13 → am_u I2 13 1 0 a j = I2 a j := fun a j h => am_u_ne h
      have i3 : am_u I2 13 1 0 13 1 = 0 := am_u_kk
      refine ⟨(am_kk hB rfl), 12, (am_rf hB rfl), (am_kk hB rfl), 13, (am_rf hB rfl), ⟨by decide, (am_kk hB rfl)⟩, fun _ => ⟨(am_kk hB rfl), r, h4, (am_kk hB rfl), 19, (am_rf hB rfl), (am_kk hB rfl), 19, (am_rf hB rfl), (am_kk hB rfl), ?_⟩, fun h => absurd h (by decide)⟩
      show am_nm (am_u I2 13 1 0 19 1) _
      generalize am_u I2 13 1 0 = I3 at e3 i3 ⊢
      have x3 : ∀ a j : Nat, a ≠ 13 → a ≠ 15 → a ≠ 16 → a ≠ 17 → ¬ (19 ≤ a ∧ a ≤ 28) → ¬ (a = 29 ∧ j = 0) → I3 a j = I a j := fun a j g1 g2 g3 g4 g5 g6 => (e3 a j g1).trans ((fr2.1 a j g1 g2 g3 g4 g5).trans (ea a j g6))
      have hS3 : Sx I3 J2 r s ws N m wd nmL := Sx_fr (fun x a1 a2 => funext fun j => x3 x j (by omega) (by omega) (by omega) (by omega) (by omega) (by omega)) (fun x a1 a2 => funext fun j => fr2.2 x j (by omega) (by omega)) h0.1
      have hE3 := hS3.2.1
      have cm : I3 (r + 1) 1 = (m : Int) := (x3 _ _ (by omega) (by omega) (by omega) (by omega) (by omega) (by omega)).trans (hCn.2.1.trans h0.2.2.2.1.2.1)
      have w2 : I3 r 2 = (wd : Int) := hS3.2.2.2.2.2.2.2.2.2.2.2.1
      refine am_nm_k (v := ((0 : Nat) : Int)) ((e3 19 1 (by decide)).trans h191) ?_
      rintro _ rfl _ _
      refine ⟨k0, x_ffRow (d := 1283) (g := J2 (r + 7)) (cT := I3 (r + 5)) (ar := I3 (r + 6)) (aT := I3 (r + 8)) (W := I3 (r + 26)) (m := m) hB hr (Or.inl rfl) hE3.2.2.1 (fun c hc => ⟨(hE3.2.2.2.2.2.1 c hc).2.1, (hE3.2.2.2.2.2.1 c hc).2.2.1⟩) w2 hE3.2.2.2.1 (fun z _ => rfl) (ft_HL_frame hH (fun x j a1 a2 _ _ => e3 x j (by omega)) (fun _ _ _ => rfl)) hsp.1 hokt (by have := hsp.2.2; omega) ⟨cm, rfl, rfl, rfl, rfl⟩ (fun I4 f4 g4 => ⟨_, rfl, ?_⟩)⟩
      have x4 : ∀ a j : Nat, a ≠ 26 → I4 a j = I3 a j := fun a j h => f4 a j (by omega)
      have e4 : ∀ a : Nat, a ≠ 26 → I4 a = I3 a := fun a h => funext fun j => x4 a j h
      have y4 : ∀ a j : Nat, a ≠ 13 → a ≠ 15 → a ≠ 16 → a ≠ 17 → ¬ (19 ≤ a ∧ a ≤ 28) → ¬ (a = 29 ∧ j = 0) → I4 a j = I a j := fun a j g1 g2 g3 g4 g5 g6 => (x4 a j (by omega)).trans (x3 a j g1 g2 g3 g4 g5 g6)
      have hS4 : Sx I4 J2 r s ws N m wd nmL := Sx_fr (fun x a1 a2 => e4 x (by omega)) (fun _ _ _ => rfl) hS3
      have hM4 : Md I4 J2 r s ws N m wd nmL I4 J2 := Md_cg (F := I) (G := J) (fun x a1 a2 => funext fun j => y4 x j (by omega) (by omega) (by omega) (by omega) (by omega) (by omega)) (fun x a1 a2 => funext fun j => fr2.2 x j (by omega) (by omega)) (Md_fr (fun a j a1 a2 => y4 a j (by omega) (by omega) (by omega) (by omega) (by omega) (by omega)) (funext fun j => fr2.2 110 j (by decide) (by decide)) h0.2.2.2)
      have el : ls_f (tf (fx (J2 (r + 7)) m) (I4 (r + 5)) (I4 (r + 6)) (I4 (r + 8)) 6) (tm_at 6) (len : Int) (I4 (r + 26)) wd ts = ls_f (tf (fx (J2 (r + 7)) m) (I3 (r + 5)) (I3 (r + 6)) (I3 (r + 8)) 6) (tm_at 6) (len : Int) (I3 (r + 26)) wd ts := by
        rw [e4 (r + 5) (by omega), e4 (r + 6) (by omega), e4 (r + 8) (by omega), e4 (r + 26) (by omega)]
      have i413 : I4 13 1 = 0 := (x4 _ _ (by decide)).trans i3
      have i429 : I4 29 0 = 0 := (x4 _ _ (by decide)).trans ((e3 _ _ (by decide)).trans ((fr2.1 _ _ (by decide) (by decide) (by decide) (by decide) (by decide)).trans ia))
      -- the reference, from a state like this one
      have rnx : ∀ (I5 I6 J6 : Nat → Nat → Int), (∀ a j : Nat, ¬ (a = 29 ∧ j = 0) → a ≠ 30 → I5 a j = I4 a j) → rm_fr I5 I6 J2 J6 → rn_fr I I6 J J6 := by
        intro I5 I6 J6 f5 f6
        refine ⟨fun a j g1 g2 g3 g4 g5 g6 g7 g8 g9 => (f6.1 a j g4 g5 g6 g7 g8 g9).trans ((f5 a j (by omega) (by omega)).trans (y4 a j g1 (by omega) (by omega) (by omega) (by omega) (by omega))), fun a j g1 g2 g3 => (f6.2 a j g3).trans (fr2.2 a j g1 g2)⟩
      have bs5 : ∀ I5 : Nat → Nat → Int, (∀ a j : Nat, ¬ (a = 29 ∧ j = 0) → a ≠ 30 → I5 a j = I4 a j) → am_bs L xs (n, C, I5, J2, R) := fun I5 f5 => ⟨hB, hK0, fun a j ha => (f5 a j (by omega) (by omega)).trans ((y4 a j (by omega) (by omega) (by omega) (by omega) (by omega) (by omega)).trans (hI0' a j ha))⟩
      refine s_X_run_76 ⟨fun hm1 => ?_, fun hm1 => ?_⟩
      · have hnone : ls_f (tf (fx (J2 (r + 7)) m) (I3 (r + 5)) (I3 (r + 6)) (I3 (r + 8)) 6) (tm_at 6) (len : Int) (I3 (r + 26)) wd ts = none := by
          rcases hh : ls_f (tf (fx (J2 (r + 7)) m) (I3 (r + 5)) (I3 (r + 6)) (I3 (r + 8)) 6) (tm_at 6) (len : Int) (I3 (r + 26)) wd ts with _ | k
          · rfl
          · have := ls_f_nn ts wd _ (by omega) hokt hh
            rw [hh] at hm1
            have hm1 : k = -1 := hm1
            omega
        have hG4 := g4 hnone
        have hH4 : ls_H (ft_H I4 J2 19 6) (tm_sz 6) (I4 28) 0 ts := by
          have q : ∀ a : Nat, a ≠ 13 → a ≠ 26 → I4 a = I2 a := fun a g1 g2 => (e4 a g2).trans (funext fun j => e3 a j g1)
          rw [ft_H_eq (b := 19) (I := I2) (I' := I4) (J := J2) (J' := J2) (fun x a1 a2 a3 => q x (by omega) (by omega)) rfl 6, q 28 (by decide) (by decide)]
          exact hH
        refine ⟨(am_kk hB rfl), 29, (am_rf hB rfl), (am_kk hB rfl), r, h4, (am_kk hB rfl), 19, (am_rf hB rfl), (am_kk hB rfl), x_tryRows (d := 1273) (us := ts) hB hS4 h0.2.1 ((x4 _ _ (by decide)).trans ((e3 _ _ (by decide)).trans h191)) hH4 hG4 hokt hvk hsp.2.2 ⟨(len : Int), el.trans hnone⟩ hsp.1 ⟨i429, trivial⟩ (fun I5 res L5 f5 k5 l5 v5 => ⟨_, rfl, s_X_run_99 ⟨_, rfl, bs5 I5 (fun a j g1 g2 => f5 a j g1 g2), ?_⟩⟩)⟩
        have f5' : ∀ a j : Nat, ¬ (a = 29 ∧ j = 0) → a ≠ 30 → I5 a j = I4 a j := fun a j g1 g2 => f5 a j g1 g2
        have e5 : ∀ a : Nat, a ≠ 29 → a ≠ 30 → I5 a = I4 a := fun a g1 g2 => funext fun j => f5 a j (by omega) g2
        obtain ⟨p1, p2, p3, p4, p5⟩ := pre I0 I5 e0 (fun a j ha => (f5 a j (by omega) (by omega)).trans (y4 a j (by omega) (by omega) (by omega) (by omega) (by omega) (by omega)))
        have hM5 : Md I4 J2 r s ws N m wd nmL I5 J2 := Md_fr (fun a j a1 a2 => f5 a j (by omega) (by omega)) rfl hM4
        refine m_runOk (d := 1293) (e := (len : Int)) hB p1 p2 hL p3 p4 (mt_of p5 hfin hL) hsp hokt hS4 hM5 (fun hb => absurd (el.trans hnone) hb) (fun _ V hV res2 L0 hres I6 J6 f6 q1 q40 qlk => ?_)
        have hres2 := (v5 V hV).symm.trans hres
        have e1 : res = res2 := congrArg Prod.fst hres2
        have e2 : L5 = L0 := congrArg Prod.snd hres2
        subst e1
        subst e2
        have h29 : ∀ a j : Nat, (a = 13 ∨ a = 29 ∨ a = 30) → I6 a j = I5 a j := fun a j ha => f6.1 a j (by omega) (by omega) (by omega) (by omega) (by omega) (by omega)
        refine ⟨rfl, Iv_rn hIv0 h6 (rnx I5 I6 J6 f5' f6) ((h29 _ _ (by decide)).trans ((f5 _ _ (by decide) (by decide)).trans i413)) q1 (lk_both l5 ⟨(h29 _ _ (by decide)).trans k5.1, ?_⟩ q40 qlk)⟩
        rw [show I6 30 = I5 30 from funext fun j => h29 30 j (by decide)]
        exact k5.2
      · have hsome : ls_f (tf (fx (J2 (r + 7)) m) (I4 (r + 5)) (I4 (r + 6)) (I4 (r + 8)) 6) (tm_at 6) (len : Int) (I4 (r + 26)) wd ts ≠ none := by
          rw [el]
          intro hh
          rw [hh] at hm1
          exact hm1 rfl
        obtain ⟨p1, p2, p3, p4, p5⟩ := pre I0 I4 e0 (fun a j ha => y4 a j (by omega) (by omega) (by omega) (by omega) (by omega) (by omega))
        refine ⟨_, rfl, bs5 I4 (fun _ _ _ _ => rfl), m_runOk (d := 1293) (e := (len : Int)) hB p1 p2 hL p3 p4 (mt_of p5 hfin hL) hsp hokt hS4 hM4 (fun _ I6 J6 f6 q1 q40 => ?_) (fun hb => absurd hb hsome)⟩
        have h29 : ∀ a j : Nat, (a = 13 ∨ a = 29 ∨ a = 30) → I6 a j = I4 a j := fun a j ha => f6.1 a j (by omega) (by omega) (by omega) (by omega) (by omega) (by omega)
        exact ⟨rfl, Iv_rn hIv0 h6 (rnx I4 I6 J6 (fun _ _ _ _ => rfl) f6) ((h29 _ _ (by decide)).trans i413) q1 (lk_both (L := []) (by decide) ⟨(h29 _ _ (by decide)).trans i429, trivial⟩ q40 trivial)⟩
    · refine s_X_run_27 ⟨(am_kk hB rfl), 12, (am_rf hB rfl), (am_kk hB rfl), 13, (am_rf hB rfl), (am_kk hB rfl), am_nm_k l2 ?_⟩
      rintro _ rfl _ _
      have e3 : ∀ a j : Nat, a ≠ 13 → am_u I2 13 1 0 a j = I2 a j := fun a j h => am_u_ne h
      have i3 : am_u I2 13 1 0 13 1 = 0 := am_u_kk
      refine ⟨(am_kk hB rfl), 12, (am_rf hB rfl), (am_kk hB rfl), 13, (am_rf hB rfl), ⟨by decide, (am_kk hB rfl)⟩, fun h => absurd rfl h, fun _ => ⟨_, rfl, ?_⟩⟩
      generalize am_u I2 13 1 0 = I3 at e3 i3 ⊢
      have x3 : ∀ a j : Nat, a ≠ 13 → a ≠ 15 → a ≠ 16 → a ≠ 17 → ¬ (19 ≤ a ∧ a ≤ 28) → ¬ (a = 29 ∧ j = 0) → I3 a j = I a j := fun a j g1 g2 g3 g4 g5 g6 => (e3 a j g1).trans ((fr2.1 a j g1 g2 g3 g4 g5).trans (ea a j g6))
      have i329 : I3 29 0 = 0 := (e3 _ _ (by decide)).trans ((fr2.1 _ _ (by decide) (by decide) (by decide) (by decide) (by decide)).trans ia)
      obtain ⟨p1, p2, p3, p4, p5⟩ := pre I0 I3 e0 (fun a j ha => x3 a j (by omega) (by omega) (by omega) (by omega) (by omega) (by omega))
      refine ⟨⟨hB, hK0, fun a j ha => (x3 a j (by omega) (by omega) (by omega) (by omega) (by omega) (by omega)).trans (hI0' a j ha)⟩, m_runBad (d := 1293) hB p1 p2 hL p3 p4 (mt_of p5 hfin hL) hbd hkc (fun I6 J6 f6 q1 q40 => ?_)⟩
      have h29 : ∀ a j : Nat, (a = 13 ∨ a = 29 ∨ a = 30) → I6 a j = I3 a j := fun a j ha => f6.1 a j (by omega) (by omega) (by omega) (by omega) (by omega) (by omega)
      refine ⟨rfl, Iv_rn hIv0 h6 ⟨fun a j g1 g2 g3 g4 g5 g6 g7 g8 g9 => (f6.1 a j g4 g5 g6 g7 g8 g9).trans (x3 a j g1 (by omega) (by omega) (by omega) (by omega) (by omega)), fun a j g1 g2 g3 => (f6.2 a j g3).trans (fr2.2 a j g1 g2)⟩ ((h29 _ _ (by decide)).trans i3) q1 (lk_both (L := []) (by decide) ⟨(h29 _ _ (by decide)).trans i329, trivial⟩ q40 trivial)⟩
end OKR
