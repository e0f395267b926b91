/-! RUN -/
def rm_fr (I I' J J' : Nat → Nat → Int) : Prop := (∀ a j : Nat, ¬ (a = 101 ∧ (j = 1 ∨ j = 3 ∨ j = 7 ∨ j = 8 ∨ j = 9 ∨ j = 10 ∨ j = 13 ∨ (33 ≤ j ∧ j ≤ 35) ∨ j = 40)) → a ≠ 103 → a ≠ 104 → a ≠ 106 → ¬ (122 ≤ a ∧ a ≤ 125) → a ≠ 127 → I' a j = I a j) ∧ ∀ a j : Nat, a ≠ 105 → J' a j = J a j
section MRU
variable {d n0 : Nat} {C : Nat → am_K} {I J : Nat → Nat → Int} {R : Nat → Nat → Option Nat} {Q : am_Q} {kd pl nu nm b : Nat → Int} {c len s : Nat} {x : Int}
theorem mt_5 {I I' J : Nat → Nat → Int} (hT : mt_T I J kd pl nu nm c) (h3 : I' 103 = I 103) (h4 : I' 104 = I 104) : mt_T I' J kd pl nu nm c := by
  unfold mt_T
  rw [h3, h4]; exact hT
theorem m_runS (hB : am_B C R) (h14 : I 101 14 = (s : Int)) (hl : I 101 1 = (len : Int)) (hL : len ≤ 1200) (hb : ∀ j : Nat, j < len → I 102 j % 256 = b j) (hby : ∀ j : Nat, j < len → 0 ≤ b j ∧ b j ≤ 255) (hmt : ∀ (I' J' : Nat → Nat → Int) (t : Nat), tm_fin b I' J' len t → mt_T I' J' kd pl nu nm c) (go : ∀ I' J' : Nat → Nat → Int, rm_fr I I' J J' → mt_T I' J' kd pl nu nm c → I' 101 1 = 0 → I' 101 7 = ((0 : Nat) : Int) → I' 101 8 = 0 → I' 101 40 = 0 → I' 101 10 = ((0 : Nat) : Int) → am_WP (d + 5) (am_entry 34 [.inr (.inl 101), .inl 1] (n0, C, I', J', R)) (fun v1 s2 => v1 = none ∧ am_WP (d + 6) (56, 43, [.inr (.inl 101), .inl x, am_o, am_o, am_o], [], (0, 0), s2) Q)) : am_WP (d + 6) (am_entry 56 [.inr (.inl 101), .inl x] (n0, C, I, J, R)) Q := by
  refine e_M_run ⟨(am_kk hB rfl), am_nm_k h14 ?_⟩
  rintro _ rfl _ _
  refine ⟨fun _ => ⟨(am_kk hB rfl), m_scan (d := d + 3) hB hl hL hb hby (fun I1 J1 t f1 f2 hf => ⟨rfl, ?_⟩)⟩, fun h => absurd h (by omega)⟩
  have hT := hmt I1 J1 t hf
  refine s_M_run_13 ⟨⟨by decide, (am_kk hB rfl)⟩, ⟨by decide, (am_kk hB rfl)⟩, ⟨by decide, (am_kk hB rfl)⟩, Or.inl rfl, ⟨by decide, (am_kk hB rfl)⟩, ⟨by decide, (am_kk hB rfl)⟩, (am_kk hB rfl), ?_⟩
  refine go _ J1 ⟨fun a j g1 g2 g3 g4 g5 g6 => ?_, f2⟩ (mt_5 hT ?_ ?_) ?_ ?_ ?_ ?_ am_u_kk
  · rw [am_u_off (by omega), am_u_off (by omega), am_u_off (by omega), am_u_off (by omega), am_u_off (by omega)]
    exact f1 a j (by omega) g2 g3
  · rw [am_u_row (by decide), am_u_row (by decide), am_u_row (by decide), am_u_row (by decide), am_u_row (by decide)]
  · rw [am_u_row (by decide), am_u_row (by decide), am_u_row (by decide), am_u_row (by decide), am_u_row (by decide)]
  · rw [am_u_kn (by decide), am_u_kn (by decide), am_u_kn (by decide), am_u_kn (by decide)]; exact am_u_kk
  · rw [am_u_kn (by decide), am_u_kn (by decide), am_u_kn (by decide)]; exact am_u_kk
  · rw [am_u_kn (by decide), am_u_kn (by decide)]; exact am_u_kk
  · rw [am_u_kn (by decide)]; exact am_u_kk
theorem rm_fm {I I1 I2 J J1 : Nat → Nat → Int} (h : rm_fr I I1 J J1) (h' : fm_fr I1 I2) : rm_fr I I2 J J1 := ⟨fun a j g1 g2 g3 g4 g5 g6 => (h' a j (by omega) g4).trans (h.1 a j g1 g2 g3 g4 g5 g6), h.2⟩
theorem rm_vf {I I1 I2 J J1 : Nat → Nat → Int} (h : rm_fr I I1 J J1) (h' : vf_fr 0 I1 I2) : rm_fr I I2 J J1 := ⟨fun a j g1 g2 g3 g4 g5 g6 => (h' a j (by unfold vf_ch; omega)).trans (h.1 a j g1 g2 g3 g4 g5 g6), h.2⟩
theorem rm_mr {I I1 I2 J J1 : Nat → Nat → Int} (h : rm_fr I I1 J J1) (h' : mr_fr I1 I2) : rm_fr I I2 J J1 := ⟨fun a j g1 g2 g3 g4 g5 g6 => (h' a j (by omega) g6).trans (h.1 a j g1 g2 g3 g4 g5 g6), h.2⟩
/-- after the form: a token that cannot stand there -/
theorem m_run43 {I1 J1 : Nat → Nat → Int} {k : Nat} (hB : am_B C R) (hT : mt_T I1 J1 kd pl nu nm c) (h7 : I1 101 7 = (k : Int)) (hk : k ≤ c) (hb : I1 101 8 = 1 ∨ I1 101 8 = 0 ∧ kd k ≠ 0) (post : ∀ I' : Nat → Nat → Int, fm_fr I1 I' → Q (some (.inl (-2))) (n0, C, I', J1, R)) : am_WP (d + 6) (56, 43, [.inr (.inl 101), .inl x, am_o, am_o, am_o], [], (0, 0), n0, C, I1, J1, R) Q := by
  have s66 : ∀ I2 : Nat → Nat → Int, I2 101 8 = 1 → fm_fr I1 I2 → am_WP (d + 6) (56, 66, [.inr (.inl 101), .inl x, am_o, am_o, am_o], [], (0, 0), n0, C, I2, J1, R) Q := by
    intro I2 h8 hf
    refine s_M_run_66 ⟨(am_kk hB rfl), am_nm_k h8 ?_⟩
    rintro _ rfl _ _
    exact ⟨fun h => absurd h (by decide), fun _ => post I2 hf⟩
  rcases hb with h8 | ⟨h8, hkd⟩
  · refine s_M_run_43 ⟨(am_kk hB rfl), am_nm_k h8 ?_⟩
    rintro _ rfl _ _
    exact ⟨fun _ => s66 I1 h8 (fun _ _ _ _ => rfl), fun h => absurd h (by decide)⟩
  · refine s_M_run_43 ⟨(am_kk hB rfl), am_nm_k h8 ?_⟩
    rintro _ rfl _ _
    refine ⟨fun h => absurd rfl h, fun _ => ⟨(am_kk hB rfl), _, (am_rf hB rfl), (am_kk hB rfl), m_srt hB hT h7 hk (fun z _ e0 => ⟨fun h => absurd (e0.mp h) hkd, fun _ => ⟨(am_kk hB rfl), m_misplaced hB hT h7 hk h8 (fun I2 hb => ⟨rfl, s66 I2 hb.2.2.1 hb.1⟩)⟩⟩)⟩⟩
theorem m_runBad {k : Nat} (hB : am_B C R) (h14 : I 101 14 = (s : Int)) (hl : I 101 1 = (len : Int)) (hL : len ≤ 1200) (hb : ∀ j : Nat, j < len → I 102 j % 256 = b j) (hby : ∀ j : Nat, j < len → 0 ≤ b j ∧ b j ≤ 255) (hmt : ∀ (I' J' : Nat → Nat → Int) (t : Nat), tm_fin b I' J' len t → mt_T I' J' kd pl nu nm c) (hbd : vl_bd kd pl nu nm k) (hk : k ≤ c) (post : ∀ I' J' : Nat → Nat → Int, rm_fr I I' J J' → I' 101 1 = 0 → I' 101 40 = 0 → Q (some (.inl (-2))) (n0, C, I', J', R)) : am_WP (d + 6) (am_entry 56 [.inr (.inl 101), .inl x] (n0, C, I, J, R)) Q := by
  refine m_runS hB h14 hl hL hb hby hmt (fun I1 J1 f1 hT i1 i7 i8 i40 i10 => ?_)
  have fin : ∀ I2 I3 : Nat → Nat → Int, fm_fr I1 I2 → fm_fr I2 I3 → Q (some (.inl (-2))) (n0, C, I3, J1, R) := fun I2 I3 g1 g2 => post I3 J1 (rm_fm (rm_fm f1 g1) g2) ((g2 _ _ (by decide) (by decide)).trans ((g1 _ _ (by decide) (by decide)).trans i1)) ((g2 _ _ (by decide) (by decide)).trans ((g1 _ _ (by decide) (by decide)).trans i40))
  rcases hbd with hbd | ⟨ts, t1, t2, t3, t4, t5⟩
  · refine m_row_bad (v := true) hB hT i7 i8 i10 (Nat.zero_le _) (by decide) hbd (fun I2 g1 g2 g3 g4 => ⟨rfl, m_run43 hB (mt_fr hT g1) g3 g2 ?_ (fun I3 g5 => fin I2 I3 g1 g5)⟩) hk
    rcases g4 with g4 | g4
    · exact Or.inl g4.1
    · refine Or.inr ⟨g4.1, fun e => g4.2 (by rw [e]; exact Or.inr (Or.inr (Or.inr rfl)))⟩
  · exact m_row_ok (v := true) hB hT i7 i8 i10 (Nat.zero_le _) t1 t2 (by omega) (ft_le_nb t4) (fun I2 g1 g2 g3 _ g4 => ⟨rfl, m_run43 hB (mt_fr hT g1) g2 g4 (Or.inr ⟨g3, t5⟩) (fun I3 g5 => fin I2 I3 g1 g5)⟩)
theorem m_runOk {e : Int} {ts : List (tm 6)} {r N m wd : Nat} {ws : List rw0} {nmL : Nat → List Int} {F G : Nat → Nat → Int} (hB : am_B C R) (h14 : I 101 14 = (s : Int)) (hl : I 101 1 = (len : Int)) (hL : len ≤ 1200) (hb : ∀ j : Nat, j < len → I 102 j % 256 = b j) (hby : ∀ j : Nat, j < len → 0 ≤ b j ∧ b j ≤ 255) (hmt : ∀ (I' J' : Nat → Nat → Int) (t : Nat), tm_fin b I' J' len t → mt_T I' J' kd pl nu nm c) (hsp : vl_sp kd pl nu nm ts) (hok : ∀ t ∈ ts, tm_ok 6 t) (h : Sx F G r s ws N m wd nmL) (hM : Md F G r s ws N m wd nmL I J) (bad : ls_f (tf (fx (G (r + 7)) m) (F (r + 5)) (F (r + 6)) (F (r + 8)) 6) (tm_at 6) e (F (r + 26)) wd ts ≠ none → ∀ I' J' : Nat → Nat → Int, rm_fr I I' J J' → I' 101 1 = 0 → I' 101 40 = 0 → Q (some (.inl (-3))) (n0, C, I', J', R)) (ok : ls_f (tf (fx (G (r + 7)) m) (F (r + 5)) (F (r + 6)) (F (r + 8)) 6) (tm_at 6) e (F (r + 26)) wd ts = none → ∀ V : Nat → Int, ls_v (vS (fx (G (r + 7)) m) (nwc F r) V 6) 1 ts → ∀ (res : Int) (L0 : List Nat), rnf V (acR (fx (G (r + 7)) m) (nwc F r) ws) (rsg ws) (btf x) ws.length 0 [] = (res, L0) → ∀ I' J' : Nat → Nat → Int, rm_fr I I' J J' → I' 101 1 = 0 → I' 101 40 = (L0.length : Int) → lk (I' 127) 0 L0 → Q (some (.inl res)) (n0, C, I', J', R)) : am_WP (d + 6) (am_entry 56 [.inr (.inl 101), .inl x] (n0, C, I, J, R)) Q := by
  refine m_runS hB h14 hl hL hb hby hmt (fun I1 J1 f1 hT i1 i7 i8 i40 i10 => ?_)
  obtain ⟨t1, ⟨j, t2, t3⟩, t4⟩ := hsp
  refine m_row_ok (v := true) hB hT i7 i8 i10 (Nat.zero_le _) t1 t2 (by omega) (ft_le_nb (by rw [t3]; exact Or.inr (Or.inr (Or.inr rfl)))) (fun I2 g1 g2 g3 _ g4 => ⟨rfl, ?_⟩)
  have f2 := rm_fm f1 g1
  have hT2 := mt_fr hT g1
  have hM2 : Md F G r s ws N m wd nmL I2 J1 := Md_fr (fun a j a1 a2 => f2.1 a j (by omega) (by omega) (by omega) (by omega) (by omega) (by omega)) (funext fun j => f2.2 110 j (by decide)) hM
  have e14 : I2 101 14 = (s : Int) := (f2.1 _ _ (by decide) (by decide) (by decide) (by decide) (by decide) (by decide)).trans h14
  have e40 : I2 101 40 = 0 := (g1 _ _ (by decide) (by decide)).trans i40
  have e1 : I2 101 1 = 0 := (g1 _ _ (by decide) (by decide)).trans i1
  have s66 : am_WP (d + 6) (56, 66, [.inr (.inl 101), .inl x, am_o, am_o, am_o], [], (0, 0), n0, C, I2, J1, R) Q := by
    refine s_M_run_66 ⟨(am_kk hB rfl), am_nm_k g3 ?_⟩
    rintro _ rfl _ _
    refine ⟨fun _ => ⟨(am_kk hB rfl), am_nm_k e14 ?_⟩, fun h => absurd rfl h⟩
    rintro _ rfl _ _
    refine ⟨(am_kk hB rfl), m_values (e := e) hB h.2.1 hT2 g3 hM2.1 t2 t3 hok (fun hn I3 f3 q8 hv => ⟨rfl, ?_⟩) (fun hn I3 f3 q8 => ⟨rfl, ?_⟩)⟩
    · refine s_M_run_84 ⟨(am_kk hB rfl), am_nm_k q8 ?_⟩
      rintro _ rfl _ _
      refine ⟨fun _ => ?_, fun h => absurd rfl h⟩
      have hM3 : Md F G r s ws N m wd nmL I3 J1 := Md_fr (fun a j a1 a2 => f3 a j (by unfold vf_ch; omega)) rfl hM2
      rcases hr : rnf (I3 125) (acR (fx (G (r + 7)) m) (nwc F r) ws) (rsg ws) (btf x) ws.length 0 [] with ⟨res, L0⟩
      refine m_runRows (d := d + 4) hB h hM3 ((f3 _ _ (by unfold vf_ch; omega)).trans e14) ((f3 _ _ (by unfold vf_ch; omega)).trans e40) hr (fun I4 f4 q40 qlk => ?_)
      exact ok hn (I3 125) hv res L0 hr I4 J1 (rm_mr (rm_vf f2 f3) f4) ((f4 _ _ (by decide) (by decide)).trans ((f3 _ _ (by unfold vf_ch; omega)).trans e1)) q40 qlk
    · refine s_M_run_84 ⟨(am_kk hB rfl), am_nm_k q8 ?_⟩
      rintro _ rfl _ _
      exact ⟨fun h => absurd h (by decide), fun _ => bad hn I3 J1 (rm_vf f2 f3) ((f3 _ _ (by unfold vf_ch; omega)).trans e1) ((f3 _ _ (by unfold vf_ch; omega)).trans e40)⟩
  refine s_M_run_43 ⟨(am_kk hB rfl), am_nm_k g3 ?_⟩
  rintro _ rfl _ _
  exact ⟨fun h => absurd rfl h, fun _ => ⟨(am_kk hB rfl), _, (am_rf hB rfl), (am_kk hB rfl), m_srt hB hT2 g2 g4 (fun z _ e0 => ⟨fun _ => s66, fun h => absurd (e0.mpr t3) h⟩)⟩⟩
end MRU
/-- what run changes, on both sides -/
def rn_fr (I I' J J' : Nat → Nat → Int) : Prop := (∀ a j : Nat, a ≠ 13 → ¬ (15 ≤ a ∧ a ≤ 17) → ¬ (19 ≤ a ∧ a ≤ 30) → ¬ (a = 101 ∧ (j = 1 ∨ j = 3 ∨ j = 7 ∨ j = 8 ∨ j = 9 ∨ j = 10 ∨ j = 13 ∨ (33 ≤ j ∧ j ≤ 35) ∨ j = 40)) → a ≠ 103 → a ≠ 104 → a ≠ 106 → ¬ (122 ≤ a ∧ a ≤ 125) → a ≠ 127 → I' a j = I a j) ∧ ∀ a j : Nat, a ≠ 18 → a ≠ 24 → a ≠ 105 → J' a j = J a j
section IVR
variable {L : Nat} {xs : Nat → Int} {n : Nat} {K : Nat → am_K} {I I' J J' : Nat → Nat → Int} {R : Nat → Nat → Option Nat} {r s : Nat}
theorem Rq_rn (hr : r = 41 ∨ r = 71) (hf : rn_fr I I' J J') : Rq r s I I' J J' := Rq_mk ⟨fun x a1 a2 => funext fun j => hf.1 x j (by omega) (by omega) (by omega) (by omega) (by omega) (by omega) (by omega) (by omega) (by omega), fun x a1 a2 => funext fun j => hf.2 x j (by omega) (by omega) (by omega), fun x a1 a2 => funext fun j => hf.1 x j (by omega) (by omega) (by omega) (by omega) (by omega) (by omega) (by omega) (by omega) (by omega), fun a j a1 a2 => hf.1 a j (by omega) (by omega) (by omega) (by omega) (by omega) (by omega) (by omega) (by omega) (by omega), funext fun j => hf.2 110 j (by decide) (by decide) (by decide)⟩
theorem Rs_rn (hr : r = 41 ∨ r = 71) (hf : rn_fr I I' J J') (h : Rs I J r s) : Rs I' J' r s := by
  obtain ⟨ws, N, m, wd, nmL, h0, h1, h2⟩ := h
  have hq := Rq_rn (s := s) hr hf
  have e : ∀ a j : Nat, (31 ≤ a ∧ a ≤ 40 ∨ 128 ≤ a ∨ a = 101 ∧ (j = 43 ∨ j = 54)) → I' a j = I a j := fun a j ha => hf.1 a j (by omega) (by omega) (by omega) (by omega) (by omega) (by omega) (by omega) (by omega) (by omega)
  exact ⟨ws, N, m, wd, nmL, R0_fr hq h0, Ex_fr hq (e _ _ (by decide)) (e _ _ (by decide)) (funext fun j => e _ _ (by omega)) (e _ _ (by decide)) (e _ _ (by decide)) (funext fun j => e _ _ (by omega)) h1, Nv_fr hq (funext fun j => e _ _ (by omega)) h2⟩
theorem Iv_rn (hI : am_Iv Rs L xs (n, K, I, J, R)) (h6 : I 11 6 = 1) (hf : rn_fr I I' J J') (h13 : I' 13 1 = 0) (h101 : I' 101 1 = 0) (hL : am_Lk I') : am_Iv Rs L xs (n, K, I', J', R) := by
  obtain ⟨⟨hB, hK0, hI0⟩, hT, hp, r, r', h4, h5, hrr, hc⟩ := hI
  replace hc : I 11 6 = 0 ∧ I 101 14 = -1 ∨ I 11 6 = 1 ∧ ∃ s : Nat, s < 2 ∧ I 101 14 = (s : Int) ∧ am_Cn I r s ∧ am_Lk I ∧ Rs I J r s := hc
  have e : ∀ a j : Nat, (a < 13 ∨ 31 ≤ a ∧ a ≤ 100 ∨ a = 101 ∧ (j = 2 ∨ j = 14) ∨ 107 ≤ a ∧ a ≤ 121) → I' a j = I a j := fun a j ha => hf.1 a j (by omega) (by omega) (by omega) (by omega) (by omega) (by omega) (by omega) (by omega) (by omega)
  refine ⟨⟨hB, hK0, fun a j ha => (e a j (by omega)).trans (hI0 a j ha)⟩, ⟨?_, ?_, ?_, fun j hj => ?_⟩, ?_, r, r', h4, h5, hrr, ?_⟩
  · show 0 ≤ I' 13 1; omega
  · show I' 13 1 ≤ 1200; omega
  · show I' 101 1 = I' 13 1; omega
  · have hj : (j : Int) < I' 13 1 := hj
    omega
  · exact (e 11 7 (by decide)).trans (hp.trans (e 101 2 (by decide)).symm)
  · show I' 11 6 = 0 ∧ I' 101 14 = -1 ∨ I' 11 6 = 1 ∧ ∃ s : Nat, s < 2 ∧ I' 101 14 = (s : Int) ∧ am_Cn I' r s ∧ am_Lk I' ∧ Rs I' J' r s
    rw [e 11 6 (by decide), e 101 14 (by decide)]
    rcases hc with hc | ⟨h6, s, hs, h14, hC, -, hR0⟩
    · omega
    · exact Or.inr ⟨h6, s, hs, h14, Cn_fr (hrr.imp And.left And.left) hC (fun a j ha => e a j (by omega)), hL, Rs_rn (hrr.imp And.left And.left) hf hR0⟩
end IVR
