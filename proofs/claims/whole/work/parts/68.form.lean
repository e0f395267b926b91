section XG
variable {n0 : Nat} {K : Nat → am_K} {I J : Nat → Nat → Int} {R : Nat → Nat → Option Nat} {Q : am_Q} {kd pl nu nm : Nat → Int} {c i b m n D : Nat}
theorem xt_around (hn : n ≤ 6) (hX : xt_T n) {l : lb} (hB : am_B K R) (hb : ft_b b) (hT : ft_T I J kd pl nu nm c) (hi : I 13 7 = (i : Int)) (hc : i ≤ c) (hm : I b 0 = ((m + 1 : Nat) : Int)) (hm2 : m < 60) (hnd : ft_nd I J b m l (-1) (-1)) (hD : 4 * n + 7 ≤ D)
    (ok : ∀ (I' J' : Nat → Nat → Int) (t : tm n) (j : Nat), ft_sp kd pl nu nm false n i t j → m + 1 + tm_sz n t ≤ 60 → j ≤ c → I' 13 7 = (j : Int) → I' b 0 = ((m + (1 + tm_sz n t) : Nat) : Int) → ft_fr b m I I' J J' → ft_H I' J' b (n + 1) m (tm_m l [t]) → I' (b + 9) m = -1 → Q (some (.inl (m : Int))) (n0, K, I', J', R))
    (bad : ∀ (I' J' : Nat → Nat → Int) (k : Nat), ft_bd kd pl nu nm false n i (m + 1) k → k ≤ c → I' 13 7 = (k : Int) → ft_fr b m I I' J J' → Q (some (.inl (-1))) (n0, K, I', J', R)) :
    am_WP D (am_entry 99 [.inr (.inl 12), .inr (.inl b), .inl (m : Int), .inl (7 - ((n + 1 : Nat) : Int))] (n0, K, I, J, R)) Q := by
  obtain ⟨d, rfl⟩ : ∃ d, D = d + 1 := ⟨D - 1, by omega⟩
  have b13 : 13 < b := by unfold ft_b at hb; omega
  have nb : ∀ x : Nat, b ≤ x → am_nc ≤ x := by intro x hx; unfold am_nc; omega
  have k0 : K b = .inl 7 := am_kb (i := 0) hB hb (by decide) rfl
  refine e_Form_readAround ⟨k0, _, am_rb hB hb rfl rfl, fun z2 q2 hz2 _ _ => ⟨(am_kk hB rfl), ?_⟩⟩
  have e2 : z2 = 7 - (n : Int) := by
    have : z2 = 7 - ((n + 1 : Nat) : Int) + 1 + 4294967296 * q2 := hz2
    omega
  rw [e2]
  refine hX n0 K I J R _ kd pl nu nm c i b (m + 1) false d hB hb hT hi hc hm (by omega) (by omega) (fun I1 J1 t j ht => ⟨_, rfl, ?_⟩) (fun I1 J1 k hk => ⟨_, rfl, ?_⟩)
  · obtain ⟨t1, t2, t3, t4, t5, t6, t7, t8⟩ := ht
    obtain ⟨a1, a2, a3, a4, a5, a6, a7, a8⟩ := hnd
    refine s_Form_readAround_14 ⟨_, nb _ (by omega), am_kb hB hb (by decide) rfl, ⟨by omega, by omega⟩, k0, _, am_rb hB hb rfl rfl, _, am_kb hB hb (by decide) rfl, ⟨by omega, by omega⟩, am_nm_eq ?_⟩
    rintro _ rfl _ _
    refine ⟨fun _ => s_Form_readAround_30 ?_, fun h => absurd h (by omega)⟩
    have hf : ft_fr b m I (am_u I1 (b + 8) m ((m + 1 : Nat) : Int)) J J1 := ft_fr_trans (ft_fr_trans ft_fr_refl t6 (by omega)) (ft_fr_up (by omega) (by omega) (Nat.le_refl _)) (Nat.le_refl _)
    have old : ∀ x : Nat, b + 1 ≤ x → x ≤ b + 9 → x ≠ b + 8 → am_u I1 (b + 8) m ((m + 1 : Nat) : Int) x m = I x m := fun x g1 g2 g3 => (am_u_ne g3).trans (t6.2.1 x m g1 g2 (by omega))
    refine ok _ J1 t j t1 t2 t3 ((am_u_ne (by omega)).trans t4) ?_ hf ⟨?_, ?_, ?_, ?_, ?_, ?_, am_u_kk, ?_⟩ ?_
    · rw [am_u_ne (by omega), t5, Nat.add_assoc]
    · exact (old _ (by omega) (by omega) (by omega)).trans a1
    · exact (old _ (by omega) (by omega) (by omega)).trans a2
    · exact (old _ (by omega) (by omega) (by omega)).trans a3
    · exact (old _ (by omega) (by omega) (by omega)).trans a4
    · rw [t6.2.2.2 (b + 5) m (by omega)]; exact a5
    · exact (old _ (by omega) (by omega) (by omega)).trans a6
    · refine ⟨ft_H_frame n (m + 1) t t7 (fun x j q1 q2 q3 q4 q5 => ?_) (fun _ _ _ => rfl), ?_, trivial⟩
      · by_cases e : x = b + 8
        · subst e; exact am_u_kn (by omega)
        · exact am_u_ne e
      · rw [am_u_ne (by omega), t8]; rfl
    · exact (old _ (by omega) (by omega) (by omega)).trans a8
  · obtain ⟨t1, t2, t3, t4⟩ := hk
    refine s_Form_readAround_14 ⟨_, nb _ (by omega), am_kb hB hb (by decide) rfl, ⟨by omega, by omega⟩, k0, _, am_rb hB hb rfl rfl, _, am_kb hB hb (by decide) rfl, ⟨by omega, by omega⟩, am_nm_eq ?_⟩
    rintro _ rfl _ _
    refine ⟨fun h => absurd rfl h, fun _ => s_Form_readAround_30 ?_⟩
    exact bad _ J1 k t1 t2 ((am_u_ne (by omega)).trans t3) (ft_fr_trans (ft_fr_trans ft_fr_refl t4 (by omega)) (ft_fr_up (by omega) (by omega) (Nat.le_refl _)) (Nat.le_refl _))
theorem xt_letter (hn : n ≤ 6) (hX : xt_T n) (hB : am_B K R) (hb : ft_b b) (hT : ft_T I J kd pl nu nm c) (hi : I 13 7 = (i : Int)) (hc : i < c) (hk : kd i = 4) (hm : I b 0 = (m : Int)) (hm2 : m < 60) (hD : 4 * n + 8 ≤ D)
    (ok : ∀ (I' J' : Nat → Nat → Int) (t : tm (n + 1)) (j : Nat), xt_ok kd pl nu nm c false b (n + 1) m i I J I' J' t j → Q (some (.inl (m : Int))) (n0, K, I', J', R))
    (bad : ∀ (I' J' : Nat → Nat → Int) (k : Nat), xt_bad kd pl nu nm c false b (n + 1) m i I J I' J' k → Q (some (.inl (-1))) (n0, K, I', J', R)) :
    am_WP D (am_entry 98 [.inr (.inl 12), .inr (.inl b), .inl (7 - ((n + 1 : Nat) : Int))] (n0, K, I, J, R)) Q := by
  obtain ⟨d, rfl⟩ : ∃ d, D = d + 4 := ⟨D - 4, by omega⟩
  have b13 : 13 < b := by unfold ft_b at hb; omega
  have nb : ∀ x : Nat, b ≤ x → am_nc ≤ x := by intro x hx; unfold am_nc; omega
  have k0 : K b = .inl 7 := am_kb (i := 0) hB hb (by decide) rfl
  refine e_Form_readLetter ⟨(am_kk hB rfl), x_leaf hB hb hT hi hc hm hm2 (fun I1 J1 f1 g1 g2 g3 => ⟨_, rfl, s_Form_readLetter_6 ⟨(am_kk hB rfl), ?_⟩⟩)⟩
  have hT1 := ft_T_fr hb hT f1
  refine x_pass (k := 64) hB hT1 g2 (by omega) ⟨by decide, by decide⟩ (fun he hlt => ⟨_, rfl, s_Form_readLetter_13 ⟨fun _ => ⟨k0, _, am_rb hB hb rfl rfl, _, nb _ (by omega), am_kb hB hb (by decide) rfl, ⟨by omega, by omega⟩, (am_kk hB rfl), ?_⟩, fun h => absurd h (by decide)⟩⟩) (fun hne => ⟨_, rfl, s_Form_readLetter_13 ⟨fun h => absurd rfl h, fun _ => ?_⟩⟩)
  · have f2 : ft_fr b m I1 (am_u (am_u I1 13 7 ((i + 1 + 1 : Nat) : Int)) (b + 1) m 3) J1 J1 := ⟨fun a j q1 q2 => by
      rw [am_u_ne (by omega)]
      by_cases e : a = 13
      · subst e; exact am_u_kn (fun e2 => q2 ⟨rfl, e2⟩)
      · exact am_u_ne e, fun a j q1 q2 q3 => by
      by_cases e : a = b + 1
      · subst e; rw [am_u_kn (by omega), am_u_ne (by omega)]
      · rw [am_u_ne e, am_u_ne (by omega)], fun j q => by rw [am_u_ne (by omega), am_u_ne (by omega)], fun _ _ _ => rfl⟩
    have hT2 := ft_T_fr hb hT1 f2
    obtain ⟨a1, a2, a3, a4, a5, a6, a7, a8⟩ := g3
    refine xt_around (l := (3, pl i, pl i, pl i, nm i, nu i)) hn hX hB hb hT2 (i := i + 1 + 1) (m := m) ?_ (by omega) ?_ hm2 ⟨am_u_kk, ?_, ?_, ?_, a5, ?_, ?_, ?_⟩ (by omega) (fun I3 J3 t j s1 s2 s3 s4 s5 s6 s7 s8 => ⟨_, rfl, s_Form_readLetter_32 ?_⟩) (fun I3 J3 k s1 s2 s3 s4 => ⟨_, rfl, s_Form_readLetter_32 ?_⟩)
    · rw [am_u_ne (by omega)]; exact am_u_kk
    · rw [am_u_ne (by omega), am_u_ne (by omega)]; exact g1
    · rw [am_u_ne (by omega), am_u_ne (by omega)]; exact a2
    · rw [am_u_ne (by omega), am_u_ne (by omega)]; exact a3
    · rw [am_u_ne (by omega), am_u_ne (by omega)]; exact a4
    · rw [am_u_ne (by omega), am_u_ne (by omega)]; exact a6
    · rw [am_u_ne (by omega), am_u_ne (by omega)]; exact a7
    · rw [am_u_ne (by omega), am_u_ne (by omega)]; exact a8
    · have esz : tm_sz (n + 1) (tm_m (3, pl i, pl i, pl i, nm i, nu i) [t]) = 1 + tm_sz n t := by show 1 + (tm_sz n t + 0) = _; omega
      refine ok I3 J3 (tm_m (3, pl i, pl i, pl i, nm i, nu i) [t]) j ⟨Or.inr (Or.inr (Or.inr (Or.inr (Or.inr (Or.inr (Or.inl ⟨rfl, hk, he, t, s1, rfl⟩)))))), ?_, s3, s4, ?_, ft_fr_trans (ft_fr_trans f1 f2 (Nat.le_refl _)) s6 (Nat.le_refl _), s7, s8⟩
      · rw [esz]; omega
      · rw [esz]; exact s5
    · exact bad I3 J3 k ⟨Or.inr ⟨hm2, Or.inr (Or.inl ⟨rfl, hk, he, s1⟩)⟩, s2, s3, ft_fr_trans (ft_fr_trans f1 f2 (Nat.le_refl _)) s4 (Nat.le_refl _)⟩
  · obtain ⟨a1, a2, a3, a4, a5, a6, a7, a8⟩ := g3
    have esz : tm_sz (n + 1) (tm_m (0, pl i, pl i, pl i, nm i, nu i) []) = 1 := rfl
    exact ok I1 J1 (tm_m (0, pl i, pl i, pl i, nm i, nu i) []) (i + 1) ⟨Or.inr (Or.inr (Or.inr (Or.inr (Or.inr (Or.inr (Or.inr (Or.inl ⟨rfl, hk, hne, rfl, rfl⟩))))))), by rw [esz]; omega, hc, g2, by rw [esz]; exact g1, f1, ⟨a1, a2, a3, a4, a5, a6, a7, trivial⟩, a8⟩
theorem xt_con {v : Bool} (hn : n ≤ 6) (hL : xt_L n) (hB : am_B K R) (hb : ft_b b) (hT : ft_T I J kd pl nu nm c) (hi : I 13 7 = (i : Int)) (hc : i < c) (hk : kd i = 40) (hm : I b 0 = (m : Int)) (hm2 : m < 60) (hD : 4 * n + 8 ≤ D)
    (ok : ∀ (I' J' : Nat → Nat → Int) (t : tm (n + 1)) (j : Nat), xt_ok kd pl nu nm c v b (n + 1) m i I J I' J' t j → Q (some (.inl (m : Int))) (n0, K, I', J', R))
    (bad : ∀ (I' J' : Nat → Nat → Int) (k : Nat), xt_bad kd pl nu nm c v b (n + 1) m i I J I' J' k → Q (some (.inl (-1))) (n0, K, I', J', R)) :
    am_WP D (am_entry 100 [.inr (.inl 12), .inr (.inl b), .inl (xt_v v), .inl (7 - ((n + 1 : Nat) : Int))] (n0, K, I, J, R)) Q := by
  obtain ⟨d, rfl⟩ : ∃ d, D = d + 4 := ⟨D - 4, by omega⟩
  have b13 : 13 < b := by unfold ft_b at hb; omega
  have nb : ∀ x : Nat, b ≤ x → am_nc ≤ x := by intro x hx; unfold am_nc; omega
  have k0 : K b = .inl 7 := am_kb (i := 0) hB hb (by decide) rfl
  refine e_Form_readConWith ⟨(am_kk hB rfl), x_leaf hB hb hT hi hc hm hm2 (fun I1 J1 f1 g1 g2 g3 => ⟨_, rfl, s_Form_readConWith_7 ⟨(am_kk hB rfl), _, (am_rf hB rfl), (am_kk hB rfl), ?_⟩⟩)⟩
  have hT1 := ft_T_fr hb hT f1
  refine x_kind hB hT1 g2 (by omega) ⟨_, rfl, s_Form_readConWith_16 ⟨fun hw => ⟨k0, _, am_rb hB hb rfl rfl, (am_kk hB rfl), _, (am_rf hB rfl), (am_kk hB rfl), ?_⟩, fun hw => bad I1 J1 (i + 1) ⟨Or.inr ⟨hm2, Or.inr (Or.inr (Or.inl ⟨hk, hw, rfl⟩))⟩, by omega, g2, f1⟩⟩⟩
  have hc1 : i + 1 < c := ft_lt hT1 (by omega) (by rw [hw]; decide) (by rw [hw]; decide)
  refine x_name hB hT1 g2 (by omega) ⟨_, rfl, s_Form_readConWith_35 ⟨_, nb _ (by omega), am_kb hB hb (by decide) rfl, ⟨by omega, by omega⟩, k0, _, am_rb hB hb rfl rfl, (am_kk hB rfl), _, (am_rf hB rfl), (am_kk hB rfl), ?_⟩⟩
  have f2 : ft_fr b m I1 I1 J1 (am_u J1 (b + 5) m (nm (i + 1))) := ⟨fun _ _ _ _ => rfl, fun _ _ _ _ _ => rfl, fun _ _ => rfl, fun a j g => by
    by_cases e : a = b + 5
    · subst e; exact am_u_kn (fun e2 => g ⟨rfl, by omega⟩)
    · exact am_u_ne e⟩
  have hT2 := ft_T_fr hb hT1 f2
  refine x_at hB hT2 g2 (by omega) ⟨_, rfl, s_Form_readConWith_49 ⟨_, nb _ (by omega), am_kb hB hb (by decide) rfl, ⟨by omega, by omega⟩, (am_kk hB rfl), _, (am_rf hB rfl), (am_kk hB rfl), ?_⟩⟩
  have f3 : ft_fr b m I1 (am_u I1 (b + 3) m (pl (i + 1))) (am_u J1 (b + 5) m (nm (i + 1))) (am_u J1 (b + 5) m (nm (i + 1))) := ft_fr_up (by omega) (by omega) (Nat.le_refl _)
  have hT3 := ft_T_fr hb hT2 f3
  refine x_adv hB hT3 ((am_u_ne (by omega)).trans g2) hc1 ⟨rfl, s_Form_readConWith_57 ⟨k0, _, am_rb hB hb rfl rfl, fun z2 q2 hz2 _ _ => ⟨(am_kk hB rfl), ?_⟩⟩⟩
  have e2 : z2 = 7 - (n : Int) := by
    have : z2 = 7 - ((n + 1 : Nat) : Int) + 1 + 4294967296 * q2 := hz2
    omega
  rw [e2]
  have f4 : ft_fr b m (am_u I1 (b + 3) m (pl (i + 1))) (am_u (am_u I1 (b + 3) m (pl (i + 1))) 13 7 ((i + 1 + 1 : Nat) : Int)) (am_u J1 (b + 5) m (nm (i + 1))) (am_u J1 (b + 5) m (nm (i + 1))) := ⟨fun a j q1 q2 => by
      by_cases e : a = 13
      · subst e; exact am_u_kn (fun e2 => q2 ⟨rfl, e2⟩)
      · exact am_u_ne e, fun a j q1 q2 q3 => am_u_ne (by omega), fun j q => am_u_ne (by omega), fun _ _ _ => rfl⟩
  have hT4 := ft_T_fr hb hT3 f4
  have f04 := ft_fr_trans (ft_fr_trans (ft_fr_trans f1 f2 (Nat.le_refl _)) f3 (Nat.le_refl _)) f4 (Nat.le_refl _)
  obtain ⟨a1, a2, a3, a4, a5, a6, a7, a8⟩ := g3
  have c1 : am_u (am_u I1 (b + 3) m (pl (i + 1))) 13 7 ((i + 1 + 1 : Nat) : Int) (b + 1) m = 6 := by rw [am_u_ne (by omega), am_u_ne (by omega)]; exact a1
  have c2 : am_u (am_u I1 (b + 3) m (pl (i + 1))) 13 7 ((i + 1 + 1 : Nat) : Int) (b + 2) m = pl i := by rw [am_u_ne (by omega), am_u_ne (by omega)]; exact a2
  have c3 : am_u (am_u I1 (b + 3) m (pl (i + 1))) 13 7 ((i + 1 + 1 : Nat) : Int) (b + 3) m = pl (i + 1) := by rw [am_u_ne (by omega)]; exact am_u_kk
  have c5 : am_u J1 (b + 5) m (nm (i + 1)) (b + 5) m = nm (i + 1) := am_u_kk
  have c6 : am_u (am_u I1 (b + 3) m (pl (i + 1))) 13 7 ((i + 1 + 1 : Nat) : Int) (b + 6) m = nu i := by rw [am_u_ne (by omega), am_u_ne (by omega)]; exact a6
  have c9 : am_u (am_u I1 (b + 3) m (pl (i + 1))) 13 7 ((i + 1 + 1 : Nat) : Int) (b + 9) m = -1 := by rw [am_u_ne (by omega), am_u_ne (by omega)]; exact a8
  have c0 : am_u (am_u I1 (b + 3) m (pl (i + 1))) 13 7 ((i + 1 + 1 : Nat) : Int) b 0 = ((m + 1 : Nat) : Int) := by rw [am_u_ne (by omega), am_u_ne (by omega)]; exact g1
  have ci : am_u (am_u I1 (b + 3) m (pl (i + 1))) 13 7 ((i + 1 + 1 : Nat) : Int) 13 7 = ((i + 1 + 1 : Nat) : Int) := am_u_kk
  simp only [Int.toNat_natCast]
  generalize am_u (am_u I1 (b + 3) m (pl (i + 1))) 13 7 ((i + 1 + 1 : Nat) : Int) = I4 at f04 hT4 c1 c2 c3 c6 c9 c0 ci ⊢
  generalize am_u J1 (b + 5) m (nm (i + 1)) = J4 at f04 hT4 c5 ⊢
  refine hL n0 K I4 J4 R _ kd pl nu nm c (i + 1 + 1) b (m + 1) v (d + 3) hB hb hT4 ci (by omega) c0 (by omega) (by omega) (fun I5 J5 ts j ht => ⟨_, rfl, ?_⟩) (fun I5 J5 k hk2 => ⟨_, rfl, ?_⟩)
  · obtain ⟨t0, t1, tle, t2, t3, t4, t5, t6, t7⟩ := ht
    refine s_Form_readConWith_72 ⟨_, nb _ (by omega), am_kb hB hb (by decide) rfl, ⟨by omega, by omega⟩, k0, _, am_rb hB hb rfl rfl, (am_kk hB rfl), _, (am_rf hB rfl), (am_kk hB rfl), ?_⟩
    have f5 : ft_fr b m I5 (am_u I5 (b + 8) m ((m + 1 : Nat) : Int)) J5 J5 := ft_fr_up (by omega) (by omega) (Nat.le_refl _)
    have hT5 := ft_T_fr hb hT4 t6
    have hT6 := ft_T_fr hb hT5 f5
    have ci6 : am_u I5 (b + 8) m ((m + 1 : Nat) : Int) 13 7 = (j : Int) := (am_u_ne (by omega)).trans t4
    refine x_at hB hT6 ci6 t3 ⟨_, rfl, s_Form_readConWith_86 ⟨_, nb _ (by omega), am_kb hB hb (by decide) rfl, ⟨by omega, by omega⟩, k0, _, am_rb hB hb rfl rfl, _, am_kb hB hb (by decide) rfl, ⟨by omega, by omega⟩, am_nm_ne (by omega) (am_nm_eq ?_)⟩⟩
    rintro _ rfl _ _
    refine ⟨fun h => absurd h (by omega), fun _ => ⟨(am_kk hB rfl), ?_⟩⟩
    have f6 : ft_fr b m (am_u I5 (b + 8) m ((m + 1 : Nat) : Int)) (am_u (am_u I5 (b + 8) m ((m + 1 : Nat) : Int)) (b + 4) m (pl j)) J5 J5 := ft_fr_up (by omega) (by omega) (Nat.le_refl _)
    have hT7 := ft_T_fr hb hT6 f6
    have f06 := ft_fr_trans (ft_fr_trans (ft_fr_trans f04 t6 (by omega)) f5 (Nat.le_refl _)) f6 (Nat.le_refl _)
    refine x_pass (k := 41) hB hT7 ((am_u_ne (by omega)).trans ci6) t3 ⟨by decide, by decide⟩ (fun he hlt => ⟨_, rfl, s_Form_readConWith_104 ⟨fun h => absurd h (by decide), fun _ => s_Form_readConWith_113 ?_⟩⟩) (fun hne => ⟨_, rfl, s_Form_readConWith_104 ⟨fun _ => s_Form_readConWith_113 ?_, fun h => absurd rfl h⟩⟩)
    · have esz : tm_sz (n + 1) (tm_m (6, pl i, pl (i + 1), pl j, nm (i + 1), nu i) ts) = 1 + ls_sz (tm_sz n) ts := rfl
      have old : ∀ x : Nat, b + 1 ≤ x → x ≤ b + 9 → x ≠ b + 8 → x ≠ b + 4 → am_u (am_u (am_u I5 (b + 8) m ((m + 1 : Nat) : Int)) (b + 4) m (pl j)) 13 7 ((j + 1 : Nat) : Int) x m = I4 x m := fun x q1 q2 q3 q4 => by rw [am_u_ne (by omega), am_u_ne q4, am_u_ne q3]; exact t6.2.1 x m q1 q2 (by omega)
      have f7 : ft_fr b m (am_u (am_u I5 (b + 8) m ((m + 1 : Nat) : Int)) (b + 4) m (pl j)) (am_u (am_u (am_u I5 (b + 8) m ((m + 1 : Nat) : Int)) (b + 4) m (pl j)) 13 7 ((j + 1 : Nat) : Int)) J5 J5 := ⟨fun a j q1 q2 => by
        by_cases e : a = 13
        · subst e; exact am_u_kn (fun e2 => q2 ⟨rfl, e2⟩)
        · exact am_u_ne e, fun a j q1 q2 q3 => am_u_ne (by omega), fun j q => am_u_ne (by omega), fun _ _ _ => rfl⟩
      refine ok _ J5 (tm_m (6, pl i, pl (i + 1), pl j, nm (i + 1), nu i) ts) (j + 1) ⟨Or.inr (Or.inr (Or.inl ⟨hk, hw, ts, j, t0, t1, he, rfl, rfl⟩)), by rw [esz]; omega, hlt, am_u_kk, ?_, ft_fr_trans f06 f7 (Nat.le_refl _), ⟨?_, ?_, ?_, ?_, ?_, ?_, ?_, ?_⟩, ?_⟩
      · rw [am_u_ne (by omega), am_u_ne (by omega), am_u_ne (by omega), t5, esz, Nat.add_assoc]
      · exact (old _ (by omega) (by omega) (by omega) (by omega)).trans c1
      · exact (old _ (by omega) (by omega) (by omega) (by omega)).trans c2
      · exact (old _ (by omega) (by omega) (by omega) (by omega)).trans c3
      · rw [am_u_ne (by omega)]; exact am_u_kk
      · rw [t6.2.2.2 (b + 5) m (by omega)]; exact c5
      · exact (old _ (by omega) (by omega) (by omega) (by omega)).trans c6
      · rw [am_u_ne (by omega), am_u_ne (by omega), Int.toNat_natCast, am_u_kk]
        have : ts.isEmpty = false := by cases ts with
          | nil => exact absurd rfl t0
          | cons _ _ => rfl
        show _ = (bif ts.isEmpty then _ else _)
        rw [this]; rfl
      · refine ft_HL_frame t7 (fun x y q1 q2 q3 q4 => ?_) (fun _ _ _ => rfl)
        rw [am_u_ne (by omega)]
        by_cases e4 : x = b + 4
        · subst e4; rw [am_u_kn (by omega), am_u_ne (by omega)]
        · rw [am_u_ne e4]
          by_cases e8 : x = b + 8
          · subst e8; exact am_u_kn (by omega)
          · exact am_u_ne e8
      · exact (old _ (by omega) (by omega) (by omega) (by omega)).trans c9
    · exact bad _ J5 j ⟨Or.inr ⟨hm2, Or.inr (Or.inr (Or.inr ⟨hk, hw, ts, j, t1, t2, Or.inl ⟨t0, tle, hne, rfl⟩⟩))⟩, t3, (am_u_ne (by omega)).trans ci6, f06⟩
  · obtain ⟨⟨ks, mm, r1, r2, r3, r4⟩, t2, t3, t4⟩ := hk2
    have hT5 := ft_T_fr hb hT4 t4
    refine s_Form_readConWith_72 ⟨_, nb _ (by omega), am_kb hB hb (by decide) rfl, ⟨by omega, by omega⟩, k0, _, am_rb hB hb rfl rfl, (am_kk hB rfl), _, (am_rf hB rfl), (am_kk hB rfl), ?_⟩
    have f5 : ft_fr b m I5 (am_u I5 (b + 8) m (-1)) J5 J5 := ft_fr_up (by omega) (by omega) (Nat.le_refl _)
    have hT6 := ft_T_fr hb hT5 f5
    refine x_at hB hT6 ((am_u_ne (by omega)).trans t3) t2 ⟨_, rfl, s_Form_readConWith_86 ⟨_, nb _ (by omega), am_kb hB hb (by decide) rfl, ⟨by omega, by omega⟩, k0, _, am_rb hB hb rfl rfl, _, am_kb hB hb (by decide) rfl, ⟨by omega, by omega⟩, am_nm_ne (by omega) (am_nm_eq ?_)⟩⟩
    rintro _ rfl _ _
    refine ⟨fun _ => s_Form_readConWith_113 ?_, fun h => absurd rfl h⟩
    exact bad _ J5 k ⟨Or.inr ⟨hm2, Or.inr (Or.inr (Or.inr ⟨hk, hw, ks, mm, r1, by omega, Or.inr ⟨r3, r4⟩⟩))⟩, t2, (am_u_ne (by omega)).trans ((am_u_ne (by omega)).trans t3), ft_fr_trans (ft_fr_trans (ft_fr_trans f04 t4 (by omega)) f5 (Nat.le_refl _)) (ft_fr_up (by omega) (by omega) (Nat.le_refl _)) (Nat.le_refl _)⟩
end XG
theorem xt_succ (n : Nat) (hn : n ≤ 6) (hX : xt_T n) (hL : xt_L n) : xt_T (n + 1) := by
  intro n0 K I J R Q kd pl nu nm c i b m v D hB hb hT hi hc hm hm2 hD ok bad
  obtain ⟨d, rfl⟩ : ∃ d, D = d + 4 := ⟨D - 4, by omega⟩
  have b13 : 13 < b := by unfold ft_b at hb; omega
  have k0 : K b = .inl 7 := am_kb (i := 0) hB hb (by decide) rfl
  have leaf : ∀ (k : Int) (l : Nat → Prop), i < c → m < 60 → (∀ t : tm (n + 1), t = tm_m (k, pl i, pl i, pl i, nm i, nu i) [] → ft_sp kd pl nu nm v (n + 1) i t (i + 1)) → ∀ Q' : am_Q, (∀ I' J' : Nat → Nat → Int, (Q (some (.inl (m : Int))) (n0, K, I', J', R)) → Q' (some (.inl (m : Int))) (n0, K, I', J', R)) → am_WP (d + 3) (am_entry 97 [.inr (.inl 12), .inr (.inl b), .inl k] (n0, K, I, J, R)) Q' := by
    intro k _ hlt hm3 hsp Q' hQ
    refine x_leaf hB hb hT hi hlt hm hm3 (fun I1 J1 f1 g1 g2 g3 => hQ I1 J1 ?_)
    obtain ⟨a1, a2, a3, a4, a5, a6, a7, a8⟩ := g3
    exact ok I1 J1 (tm_m (k, pl i, pl i, pl i, nm i, nu i) []) (i + 1) ⟨hsp _ rfl, hm3, hlt, g2, g1, f1, ⟨a1, a2, a3, a4, a5, a6, a7, trivial⟩, a8⟩
  refine e_Form_readTerm ⟨fun h => absurd h (by omega), fun _ => ⟨k0, am_nm_k hm ?_⟩⟩
  rintro _ rfl _ _
  refine ⟨fun h60 => ⟨(am_kk hB rfl), _, (am_rf hB rfl), (am_kk hB rfl), x_kind hB hT hi hc ⟨_, rfl, s_Form_readTerm_24 ?_⟩⟩, fun h60 => bad I J i ⟨Or.inl ⟨Or.inl (by omega), rfl⟩, hc, hi, ft_fr_refl⟩⟩
  have hm3 : m < 60 := by omega
  have hlt : kd i ≠ 0 → kd i ≠ 1 → i < c := ft_lt hT hc
  have nob : ¬ ft_bg v (kd i) → Q (some (.inl (-1))) (n0, K, I, J, R) := fun h => bad I J i ⟨Or.inl ⟨Or.inr h, rfl⟩, hc, hi, ft_fr_refl⟩
  refine ⟨fun n5 => ⟨fun n3 => ⟨fun n40 => ⟨fun v0 => ⟨fun n126 => ⟨fun n33 => ⟨fun n4 => ⟨fun n95 => s_Form_readTerm_160 (nob ?_), fun e95 => ⟨(am_kk hB rfl), ?_⟩⟩, fun e4 => ⟨(am_kk hB rfl), ?_⟩⟩, fun e33 => ⟨(am_kk hB rfl), ?_⟩⟩, fun e126 => ⟨(am_kk hB rfl), ?_⟩⟩, fun v1 => ⟨fun n63 => s_Form_readTerm_89 (nob ?_), fun e63 => ⟨(am_kk hB rfl), ?_⟩⟩⟩, fun e40 => ⟨(am_kk hB rfl), ?_⟩⟩, fun e3 => ⟨(am_kk hB rfl), ?_⟩⟩, fun e5 => ⟨(am_kk hB rfl), ?_⟩⟩
  · have hv : v = false := by cases v <;> first | rfl | exact absurd v0 (by decide)
    unfold ft_bg
    rw [hv]
    rintro (q | q | q | ⟨q, -⟩ | ⟨-, q⟩)
    · exact n5 q
    · exact n3 q
    · exact n40 q
    · exact absurd q (by decide)
    · omega
  · have hv : v = false := by cases v <;> first | rfl | exact absurd v0 (by decide)
    exact leaf 0 (fun _ => True) (hlt (by rw [e95]; decide) (by rw [e95]; decide)) hm3 (fun t ht => Or.inr (Or.inr (Or.inr (Or.inr (Or.inr (Or.inr (Or.inr (Or.inr ⟨hv, e95, ht, rfl⟩)))))))) _ (fun I' J' h => ⟨_, rfl, s_Form_readTerm_156 (s_Form_readTerm_160 h)⟩)
  · have hv : v = false := by cases v <;> first | rfl | exact absurd v0 (by decide)
    subst hv
    exact xt_letter (by omega) hX hB hb hT hi (hlt (by rw [e4]; decide) (by rw [e4]; decide)) e4 hm hm3 (by omega) (fun I' J' t j h => ⟨_, rfl, s_Form_readTerm_142 (ok I' J' t j h)⟩) (fun I' J' k h => ⟨_, rfl, s_Form_readTerm_142 (bad I' J' k h)⟩)
  · have hv : v = false := by cases v <;> first | rfl | exact absurd v0 (by decide)
    subst hv
    have hic := hlt (by rw [e33]; decide) (by rw [e33]; decide)
    refine x_leaf hB hb hT hi hic hm hm3 (fun I1 J1 f1 g1 g2 g3 => ⟨_, rfl, s_Form_readTerm_125 ⟨(am_kk hB rfl), ?_⟩⟩)
    refine xt_around (l := (2, pl i, pl i, pl i, nm i, nu i)) hn hX hB hb (ft_T_fr hb hT f1) g2 (by omega) g1 hm3 g3 (by omega) (fun I3 J3 t j s1 s2 s3 s4 s5 s6 s7 s8 => ⟨_, rfl, s_Form_readTerm_129 ?_⟩) (fun I3 J3 k s1 s2 s3 s4 => ⟨_, rfl, s_Form_readTerm_129 ?_⟩)
    · have esz : tm_sz (n + 1) (tm_m (2, pl i, pl i, pl i, nm i, nu i) [t]) = 1 + tm_sz n t := by show 1 + (tm_sz n t + 0) = _; omega
      exact ok I3 J3 (tm_m (2, pl i, pl i, pl i, nm i, nu i) [t]) j ⟨Or.inr (Or.inr (Or.inr (Or.inr (Or.inr (Or.inl ⟨rfl, e33, t, s1, rfl⟩))))), by rw [esz]; omega, s3, s4, by rw [esz]; exact s5, ft_fr_trans f1 s6 (Nat.le_refl _), s7, s8⟩
    · exact bad I3 J3 k ⟨Or.inr ⟨hm3, Or.inl ⟨rfl, Or.inr e33, s1⟩⟩, s2, s3, ft_fr_trans f1 s4 (Nat.le_refl _)⟩
  · have hv : v = false := by cases v <;> first | rfl | exact absurd v0 (by decide)
    subst hv
    have hic := hlt (by rw [e126]; decide) (by rw [e126]; decide)
    refine x_leaf hB hb hT hi hic hm hm3 (fun I1 J1 f1 g1 g2 g3 => ⟨_, rfl, s_Form_readTerm_105 ⟨(am_kk hB rfl), ?_⟩⟩)
    refine xt_around (l := (1, pl i, pl i, pl i, nm i, nu i)) hn hX hB hb (ft_T_fr hb hT f1) g2 (by omega) g1 hm3 g3 (by omega) (fun I3 J3 t j s1 s2 s3 s4 s5 s6 s7 s8 => ⟨_, rfl, s_Form_readTerm_109 ?_⟩) (fun I3 J3 k s1 s2 s3 s4 => ⟨_, rfl, s_Form_readTerm_109 ?_⟩)
    · have esz : tm_sz (n + 1) (tm_m (1, pl i, pl i, pl i, nm i, nu i) [t]) = 1 + tm_sz n t := by show 1 + (tm_sz n t + 0) = _; omega
      exact ok I3 J3 (tm_m (1, pl i, pl i, pl i, nm i, nu i) [t]) j ⟨Or.inr (Or.inr (Or.inr (Or.inr (Or.inl ⟨rfl, e126, t, s1, rfl⟩)))), by rw [esz]; omega, s3, s4, by rw [esz]; exact s5, ft_fr_trans f1 s6 (Nat.le_refl _), s7, s8⟩
    · exact bad I3 J3 k ⟨Or.inr ⟨hm3, Or.inl ⟨rfl, Or.inl e126, s1⟩⟩, s2, s3, ft_fr_trans f1 s4 (Nat.le_refl _)⟩
  · have hv : v = true := by cases v <;> first | rfl | exact absurd rfl v1
    unfold ft_bg
    rw [hv]
    rintro (q | q | q | ⟨-, q⟩ | ⟨q, -⟩)
    · exact n5 q
    · exact n3 q
    · exact n40 q
    · exact n63 q
    · exact absurd q (by decide)
  · have hv : v = true := by cases v <;> first | rfl | exact absurd rfl v1
    exact leaf 7 (fun _ => True) (hlt (by rw [e63]; decide) (by rw [e63]; decide)) hm3 (fun t ht => Or.inr (Or.inr (Or.inr (Or.inl ⟨hv, e63, ht, rfl⟩)))) _ (fun I' J' h => ⟨_, rfl, s_Form_readTerm_85 (s_Form_readTerm_89 h)⟩)
  · exact xt_con hn hL hB hb hT hi (hlt (by rw [e40]; decide) (by rw [e40]; decide)) e40 hm hm3 (by omega) (fun I' J' t j h => ⟨_, rfl, s_Form_readTerm_66 (ok I' J' t j h)⟩) (fun I' J' k h => ⟨_, rfl, s_Form_readTerm_66 (bad I' J' k h)⟩)
  · exact leaf 5 (fun _ => True) (hlt (by rw [e3]; decide) (by rw [e3]; decide)) hm3 (fun t ht => Or.inr (Or.inl ⟨e3, ht, rfl⟩)) _ (fun I' J' h => ⟨_, rfl, s_Form_readTerm_51 h⟩)
  · exact leaf 4 (fun _ => True) (hlt (by rw [e5]; decide) (by rw [e5]; decide)) hm3 (fun t ht => Or.inl ⟨e5, ht, rfl⟩) _ (fun I' J' h => ⟨_, rfl, s_Form_readTerm_38 h⟩)
theorem xt_all : ∀ n : Nat, n ≤ 6 → xt_T n ∧ xt_L n := by
  intro n
  induction n with
  | zero => intro _; exact ⟨xt_zero, xt_list 0 xt_zero⟩
  | succ n ih =>
    intro h
    obtain ⟨h1, h2⟩ := ih (by omega)
    have h3 := xt_succ n (by omega) h1 h2
    exact ⟨h3, xt_list (n + 1) h3⟩
