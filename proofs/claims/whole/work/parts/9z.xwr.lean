/-! THE EXAMPLE: its text, and the class writes it -/
section WTX
variable (K : Nat → Int) (F : Nat → Nat → Int) (aT : Nat → Int) (r : Nat) (nmL : Nat → List Int)
def kds (f : Nat → Int → List Int) (c base : Nat) : Nat → Nat → List Int
  | 0, _ => []
  | k + 1, i => 32 :: (f (base + i) (aT (3 * c + i)) ++ kds f c base k (i + 1))
def wcn (f : Nat → Int → List Int) (c base : Nat) : List Int := 40 :: ((nmL c).reverse ++ (kds aT f c base (F (r + 6) c).toNat 0 ++ [41]))
def wtx : Nat → Nat → Int → List Int
  | 0, _, _ => [95]
  | n + 1, p, w =>
    if K p = -1 then [95]
    else if w ≠ 6 ∧ F (r + 2) w.toNat = 1 then wcn F aT r nmL (wtx n) (F (r + 3) w.toNat).toNat p
    else if 100 ≤ K p then digs (K p - 100)
    else if F (r + 6) (K p).toNat = 0 then (nmL (K p).toNat).reverse
    else wcn F aT r nmL (wtx n) (K p).toNat (4 * p + 1)
end WTX
theorem xl_q {I I' : Nat → Nat → Int} {a : Nat} (h : xl_fr I I') (h1 : a ≠ 32) (h2 : a ≠ 33) : I' a = I a := h a h1 h2
section XWR
variable (n0 : Nat) (C : Nat → am_K) (G J : Nat → Nat → Int) (R : Nat → Nat → Option Nat) (K : Nat → Int) (aT : Nat → Int) (nmL : Nat → List Int) (r N m ns : Nat)
/-- what the class needs for writing -/
def xW : Prop := (r = 41 ∨ r = 71) ∧ N ≤ 6 ∧ m ≤ 36 ∧ ns ≤ 60 ∧ G 34 0 = (ns : Int) ∧ (∀ i p : Nat, i < ns → G 35 i = (p : Int) → G 40 i = ec (K p)) ∧ (∀ p : Nat, (∀ i : Nat, i < ns → G 35 i ≠ (p : Int)) → K p = -1) ∧ (∀ p : Nat, K p = -1 ∨ (vdf m (K p) ∧ K p ≤ 1099)) ∧ G (r + 8) = aT ∧ (∀ c : Nat, c < m → 0 ≤ G (r + 6) c ∧ G (r + 6) c ≤ 3 ∧ (∀ z : Nat, (z : Int) < G (r + 6) c → aT (3 * c + z) = 6 ∨ ∃ T : Nat, T < N ∧ aT (3 * c + z) = (T : Int)) ∧ wl_ok (nmL c) ∧ J (r + 7) c = wl_2 (nmL c)) ∧ ∀ T : Nat, T < N → (G (r + 2) T = 0 ∨ G (r + 2) T = 1) ∧ ∃ fc : Nat, G (r + 3) T = (fc : Int) ∧ fc < m
def xv_P (n : Nat) : Prop := ∀ (p D : Nat) (w : Int) (L : List Int) (I : Nat → Nat → Int) (Q : am_Q), 2 * n + 4 ≤ D → n ≤ 6 → xl_fr G I → xl L I → L.length + (wtx K G aT r nmL n p w).length ≤ 1200 → (w = 6 ∨ ∃ T : Nat, T < N ∧ w = (T : Int)) → (p + 2) * 4 ^ n ≤ 1000000 → (∀ I' : Nat → Nat → Int, xl_fr G I' → xl (L ++ wtx K G aT r nmL n p w) I' → Q none (n0, C, I', J, R)) → am_WP D (am_entry 132 [.inr (.inl 31), .inr (.inl (r + 1)), .inl w, .inl (p : Int), .inl ((7 - n : Nat) : Int)] (n0, C, I, J, R)) Q
end XWR
section XWS
variable {n0 : Nat} {C : Nat → am_K} {G J : Nat → Nat → Int} {R : Nat → Nat → Option Nat} {K : Nat → Int} {aT : Nat → Int} {nmL : Nat → List Int} {r N m ns : Nat}
theorem xv_con {n c base d : Nat} {L : List Int} {I : Nat → Nat → Int} {Q : am_Q} (hB : am_B C R) (hW : xW G J K aT nmL r N m ns) (hX : xv_P n0 C G J R K aT nmL r N n) (hD : 2 * n + 4 ≤ d) (hn : n ≤ 5) (hc : c < m) (hI : xl_fr G I) (hL : xl L I) (hl : L.length + (wcn G aT r nmL (wtx K G aT r nmL n) c base).length ≤ 1200) (hb : (base + 5) * 4 ^ n ≤ 1000000) (post : ∀ I' : Nat → Nat → Int, xl_fr G I' → xl (L ++ wcn G aT r nmL (wtx K G aT r nmL n) c base) I' → Q none (n0, C, I', J, R)) : am_WP (d + 1) (am_entry 133 [.inr (.inl 31), .inr (.inl (r + 1)), .inl (c : Int), .inl (base : Int), .inl ((6 - n : Nat) : Int)] (n0, C, I, J, R)) Q := by
  obtain ⟨hr, hN, hm, hns, w1, w2, w3, w4, w5, w6, w7⟩ := hW
  obtain ⟨a0, a3, at3, nok, nj⟩ := w6 c hc
  have k1 : C (r + 1) = .inl 10 := am_kq (i := 1) hB hr (by decide) rfl
  obtain ⟨e, rfl⟩ : ∃ e, d = e + 1 := ⟨d - 1, by omega⟩
  have hb5 : base + 5 ≤ 1000000 := by
    have : 1 ≤ 4 ^ n := Nat.one_le_pow _ _ (by decide)
    have := Nat.mul_le_mul_left (base + 5) this
    omega
  obtain ⟨ar, har⟩ : ∃ ar : Nat, G (r + 6) c = (ar : Int) := ⟨(G (r + 6) c).toNat, by omega⟩
  have len : (wcn G aT r nmL (wtx K G aT r nmL n) c base).length = 1 + (nmL c).length + (kds aT (wtx K G aT r nmL n) c base ar 0).length + 1 := by
    unfold wcn
    rw [har, Int.toNat_natCast]
    simp only [List.length_cons, List.length_append, List.length_reverse, List.length_nil]
    omega
  have wcd : wcn G aT r nmL (wtx K G aT r nmL n) c base = 40 :: ((nmL c).reverse ++ (kds aT (wtx K G aT r nmL n) c base ar 0 ++ [41])) := by
    unfold wcn
    rw [har, Int.toNat_natCast]
  rw [len] at hl
  rw [wcd] at post
  have loop : ∀ (k i : Nat) (L1 : List Int) (I1 : Nat → Nat → Int), k + i = ar → xl_fr G I1 → xl L1 I1 → L1.length + (kds aT (wtx K G aT r nmL n) c base k i).length + 1 ≤ 1200 → L ++ 40 :: ((nmL c).reverse ++ (kds aT (wtx K G aT r nmL n) c base ar 0 ++ [41])) = L1 ++ (kds aT (wtx K G aT r nmL n) c base k i ++ [41]) → am_WP (e + 2) (133, 25, [.inr (.inl 31), .inr (.inl (r + 1)), .inl (c : Int), .inl (base : Int), .inl ((6 - n : Nat) : Int), .inl (i : Int)], [], (0, 0), n0, C, I1, J, R) Q := by
    intro k
    induction k with
    | zero =>
      intro i L1 I1 hk f1 h1 hl1 he
      refine s_Search_writeConWith_25 ⟨k1, r + 6, am_rq (i := 1) hB hr rfl rfl, _, am_kq (i := 6) hB hr (by decide) rfl, ⟨by omega, by omega⟩, am_nm_k ((congrFun (f1 (r + 6) (by omega) (by omega)) c).trans har) ?_⟩
      rintro _ rfl _ _
      refine ⟨fun _ => ⟨(am_kk hB rfl), 32, (am_rf hB rfl), (am_kk hB rfl), x_put hB h1 (by have : (kds aT (wtx K G aT r nmL n) c base 0 i).length = 0 := rfl; omega) (fun I2 f2 h2 => ⟨rfl, s_Search_writeConWith_84 (post I2 (xl_trans f1 f2) ?_)⟩)⟩, fun h => absurd h (by omega)⟩
      rw [he]; exact h2
    | succ k ih =>
      intro i L1 I1 hk f1 h1 hl1 he
      have ek : kds aT (wtx K G aT r nmL n) c base (k + 1) i = 32 :: (wtx K G aT r nmL n (base + i) (aT (3 * c + i)) ++ kds aT (wtx K G aT r nmL n) c base k (i + 1)) := rfl
      rw [ek] at hl1 he
      simp only [List.length_cons, List.length_append] at hl1
      refine s_Search_writeConWith_25 ⟨k1, r + 6, am_rq (i := 1) hB hr rfl rfl, _, am_kq (i := 6) hB hr (by decide) rfl, ⟨by omega, by omega⟩, am_nm_k ((congrFun (f1 (r + 6) (by omega) (by omega)) c).trans har) ?_⟩
      rintro _ rfl _ _
      refine ⟨fun h => absurd h (by omega), fun _ => ⟨(am_kk hB rfl), 32, (am_rf hB rfl), (am_kk hB rfl), x_put hB h1 (by omega) (fun I2 f2 h2 => ⟨rfl, ?_⟩)⟩⟩
      have g2 := xl_trans f1 f2
      refine s_Search_writeConWith_45 ⟨k1, r + 8, am_rq (i := 1) hB hr rfl rfl, am_ar_i (by omega) (by omega) (am_ar_i (by omega) (by omega) ?_)⟩
      rw [show (c : Int) * 3 + (i : Int) = ((3 * c + i : Nat) : Int) by omega]
      refine ⟨_, am_kq (i := 8) hB hr (by decide) rfl, ⟨by omega, by omega⟩, am_nm_k (v := aT (3 * c + i)) ?_ (fun z hz _ _ => am_ar_i (by omega) (by omega) (am_ar_i (by omega) (by omega) ⟨(am_kk hB rfl), ?_⟩))⟩
      · show I2 (r + 8) (3 * c + i) = _
        rw [g2 (r + 8) (by omega) (by omega), w5]
      · rw [hz, show (base : Int) + (i : Int) = ((base + i : Nat) : Int) by omega, show ((6 - n : Nat) : Int) + 1 = ((7 - n : Nat) : Int) by omega]
        refine hX (base + i) (e + 1) (aT (3 * c + i)) (L1 ++ [32]) I2 _ (by omega) (by omega) g2 h2 ?_ (at3 i (by omega)) (Nat.le_trans (Nat.mul_le_mul_right _ (by omega)) hb) (fun I3 f3 h3 => ⟨rfl, s_Search_writeConWith_69 (am_ar_i (by omega) (by omega) ?_)⟩)
        · rw [List.length_append]; show L1.length + 1 + _ ≤ 1200; omega
        · refine ih (i + 1) _ I3 (by omega) f3 h3 ?_ ?_
          · simp only [List.length_append, List.length_cons, List.length_nil]; omega
          · rw [he]; simp [List.append_assoc]
  refine e_Search_writeConWith ⟨(am_kk hB rfl), 32, (am_rf hB rfl), (am_kk hB rfl), x_put hB hL (by omega) (fun I1 f1 h1 => ⟨rfl, ?_⟩)⟩
  refine s_Search_writeConWith_9 ⟨(am_kk hB rfl), 32, (am_rf hB rfl), k1, r + 7, am_rq (i := 1) hB hr rfl rfl, _, by unfold am_nc; omega, am_kq (i := 7) hB hr (by decide) rfl, ⟨by omega, by omega⟩, am_nl_k (show J (r + 7) c = wl_2 (nmL c) from nj) (fun z hz _ _ => ⟨(am_kk hB rfl), ?_⟩)⟩
  rw [hz]
  refine x_putName hB h1 (by rw [List.length_append]; show L.length + 1 + _ ≤ 1200; omega) nok (fun I2 f2 h2 => ⟨rfl, s_Search_writeConWith_22 ?_⟩)
  refine loop ar 0 _ I2 (by omega) (xl_trans hI (xl_trans f1 f2)) h2 ?_ ?_
  · simp only [List.length_append, List.length_cons, List.length_nil, List.length_reverse]; omega
  · simp [List.append_assoc]
theorem xv_all (hB : am_B C R) (hW : xW G J K aT nmL r N m ns) : ∀ n : Nat, xv_P n0 C G J R K aT nmL r N n := by
  intro n
  induction n with
  | zero =>
    intro p D w L I Q hD hn hI hL hl hw hp post
    obtain ⟨hr, hN, hm, hns, w1, w2, w3, w4, w5, w6, w7⟩ := hW
    obtain ⟨d, rfl⟩ : ∃ d, D = d + 1 := ⟨D - 1, by omega⟩
    have e1 : wtx K G aT r nmL 0 p w = [95] := rfl
    rw [e1] at hl post
    have hl : L.length + 1 ≤ 1200 := hl
    have at27 : ∀ (x5 y : Int), am_WP (d + 1) (132, 27, [.inr (.inl 31), .inr (.inl (r + 1)), .inl w, .inl (p : Int), .inl ((7 - 0 : Nat) : Int), .inl x5, am_o], [.inl y], (0, 0), n0, C, I, J, R) Q := by
      intro x5 y
      have fin : ∀ Q' : am_Q, (∀ I' : Nat → Nat → Int, xl_fr G I' → xl (L ++ [95]) I' → Q' none (n0, C, I', J, R)) → am_WP d (am_entry 103 [.inr (.inl 32), .inl 95] (n0, C, I, J, R)) Q' := fun Q' h => x_put hB hL (by omega) (fun I2 f2 h2 => h I2 (xl_trans hI f2) h2)
      exact s_Search_writeValue_27 ⟨fun _ => ⟨(am_kk hB rfl), 32, (am_rf hB rfl), (am_kk hB rfl), fin _ (fun I2 f2 h2 => ⟨rfl, s_Search_writeValue_51 (s_Search_writeValue_149 (post I2 f2 h2))⟩)⟩, fun _ => ⟨fun h => absurd h (by omega), fun _ => ⟨(am_kk hB rfl), 32, (am_rf hB rfl), (am_kk hB rfl), fin _ (fun I2 f2 h2 => ⟨rfl, s_Search_writeValue_51 (s_Search_writeValue_149 (post I2 f2 h2))⟩)⟩⟩⟩
    refine e_Search_writeValue ⟨(am_kk hB rfl), 34, (am_rf hB rfl), (am_kk hB rfl), x_spotOf hB ((congrFun (hI 34 (by decide) (by decide)) 0).trans w1) hns (fun i hi _ => ⟨_, rfl, s_Search_writeValue_8 ⟨fun _ => ⟨(am_kk hB rfl), 40, (am_rf hB rfl), _, (am_kk hB rfl), ⟨by omega, by omega⟩, (fun z hz _ _ => at27 _ z)⟩, fun h => absurd h (by omega)⟩⟩) (fun _ => ⟨_, rfl, s_Search_writeValue_8 ⟨fun h => absurd rfl h, fun _ => at27 _ _⟩⟩)⟩
  | succ n ih =>
    intro p D w L I Q hD hn hI hL hl hw hp post
    have hW0 := hW
    obtain ⟨hr, hN, hm, hns, w1, w2, w3, w4, w5, w6, w7⟩ := hW
    obtain ⟨d, rfl⟩ : ∃ d, D = d + 2 := ⟨D - 2, by omega⟩
    have k1 : C (r + 1) = .inl 10 := am_kq (i := 1) hB hr (by decide) rfl
    have e4 : 4 ^ (n + 1) = 4 * 4 ^ n := by rw [Nat.pow_succ]; omega
    have hp4 : (4 * p + 1 + 5) * 4 ^ n ≤ 1000000 := by
      rw [e4] at hp
      have : (4 * p + 1 + 5) * 4 ^ n ≤ (4 * (p + 2)) * 4 ^ n := Nat.mul_le_mul_right _ (by omega)
      have e : (4 * (p + 2)) * 4 ^ n = (p + 2) * (4 * 4 ^ n) := by
        rw [Nat.mul_comm 4 (p + 2), Nat.mul_assoc]
      omega
    have hp1 : (p + 5) * 4 ^ n ≤ 1000000 := Nat.le_trans (Nat.mul_le_mul_right _ (by omega)) hp4
    have hpp : p ≤ 250000 := by
      have h1 : 1 ≤ 4 ^ n := Nat.one_le_pow _ _ (by decide)
      have := Nat.mul_le_mul_left (4 * p + 1 + 5) h1
      omega
    have ed : wtx K G aT r nmL (n + 1) p w = (if K p = -1 then [95] else if w ≠ 6 ∧ G (r + 2) w.toNat = 1 then wcn G aT r nmL (wtx K G aT r nmL n) (G (r + 3) w.toNat).toNat p else if 100 ≤ K p then digs (K p - 100) else if G (r + 6) (K p).toNat = 0 then (nmL (K p).toNat).reverse else wcn G aT r nmL (wtx K G aT r nmL n) (K p).toNat (4 * p + 1)) := rfl
    rw [ed] at hl post
    have e6 : ((7 - (n + 1) : Nat) : Int) = ((6 - n : Nat) : Int) := by omega
    rw [e6]
    -- with the answer known
    have at27 : ∀ x5 : Int, am_WP (d + 2) (132, 27, [.inr (.inl 31), .inr (.inl (r + 1)), .inl w, .inl (p : Int), .inl ((6 - n : Nat) : Int), .inl x5, am_o], [.inl (ec (K p))], (0, 0), n0, C, I, J, R) Q := by
      intro x5
      by_cases hk : K p = -1
      · rw [if_pos hk] at hl post
        have hl : L.length + 1 ≤ 1200 := hl
        refine s_Search_writeValue_27 ⟨fun _ => ⟨(am_kk hB rfl), 32, (am_rf hB rfl), (am_kk hB rfl), x_put hB hL (by omega) (fun I2 f2 h2 => ⟨rfl, s_Search_writeValue_51 (s_Search_writeValue_149 (post I2 (xl_trans hI f2) h2))⟩)⟩, fun h => absurd ?_ h⟩
        rw [hk]; rfl
      · rw [if_neg hk] at hl post
        have hv : vdf m (K p) ∧ K p ≤ 1099 := by
          rcases w4 p with h | h
          · exact absurd h hk
          · exact h
        have nn := ec_nn hv.1
        -- not of a new type
        have old : ¬ (w ≠ 6 ∧ G (r + 2) w.toNat = 1) → am_WP (d + 2) (132, 86, [.inr (.inl 31), .inr (.inl (r + 1)), .inl w, .inl (p : Int), .inl ((6 - n : Nat) : Int), .inl x5, .inl (ec (K p))], [], (0, 0), n0, C, I, J, R) Q := by
          intro hnw
          rw [if_neg hnw] at hl post
          by_cases h100 : 100 ≤ K p
          · rw [if_pos h100] at hl post
            have ek : ec (K p) = K p - 64 := if_neg (by omega)
            rw [ek]
            refine s_Search_writeValue_86 ⟨fun h => absurd h (by omega), fun _ => ⟨(am_kk hB rfl), 32, (am_rf hB rfl), am_ar_i (by omega) (by omega) ⟨(am_kk hB rfl), ?_⟩⟩⟩
            rw [show K p - 64 - 36 = K p - 100 by omega]
            exact x_putNumber hB (by omega) (by omega) hL hl (fun I2 f2 h2 => ⟨rfl, s_Search_writeValue_105 (s_Search_writeValue_149 (post I2 (xl_trans hI f2) h2))⟩)
          · rw [if_neg h100] at hl post
            obtain ⟨c, hc⟩ : ∃ c : Nat, K p = (c : Int) := ⟨(K p).toNat, by have := hv.1; unfold vdf at this; omega⟩
            have hcm : c < m := by have := hv.1; unfold vdf at this; omega
            have ek : ec (K p) = (c : Int) := by rw [hc]; exact if_pos (by omega)
            rw [hc, Int.toNat_natCast] at hl post
            rw [ek]
            obtain ⟨a0, a3, at3, nok, nj⟩ := w6 c hcm
            refine s_Search_writeValue_86 ⟨fun _ => ⟨k1, r + 6, am_rq (i := 1) hB hr rfl rfl, _, am_kq (i := 6) hB hr (by decide) rfl, ⟨by omega, by omega⟩, (fun z hz _ _ => ?_)⟩, fun h => absurd h (by omega)⟩
            have hz : z = G (r + 6) c := hz.trans (congrFun (hI (r + 6) (by omega) (by omega)) c)
            rw [hz]
            refine ⟨fun h0 => am_ar_i (by omega) (by omega) (am_ar_i (by omega) (by omega) ⟨(am_kk hB rfl), ?_⟩), fun h0 => ⟨(am_kk hB rfl), 32, (am_rf hB rfl), k1, r + 7, am_rq (i := 1) hB hr rfl rfl, _, by unfold am_nc; omega, am_kq (i := 7) hB hr (by decide) rfl, ⟨by omega, by omega⟩, am_nl_k (show J (r + 7) c = wl_2 (nmL c) from nj) (fun y hy _ _ => ⟨(am_kk hB rfl), ?_⟩)⟩⟩
            · rw [if_neg h0] at hl post
              rw [show (4 : Int) * (p : Int) + 1 = ((4 * p + 1 : Nat) : Int) by omega]
              exact xv_con hB hW0 ih (by omega) (by omega) hcm hI hL hl hp4 (fun I2 f2 h2 => ⟨rfl, s_Search_writeValue_149 (post I2 f2 h2)⟩)
            · rw [if_pos h0] at hl post
              rw [List.length_reverse] at hl
              rw [hy]
              exact x_putName hB hL hl nok (fun I2 f2 h2 => ⟨rfl, s_Search_writeValue_132 (s_Search_writeValue_149 (post I2 (xl_trans hI f2) h2))⟩)
        refine s_Search_writeValue_27 ⟨fun h => absurd (ec_ne h) hk, fun _ => ⟨fun _ => ⟨fun h6 => old ?_, fun h6 => ?_⟩, fun h => absurd h (by omega)⟩⟩
        · rintro ⟨g1, -⟩
          rcases hw with g | ⟨T, gT, g⟩
          · exact g1 g
          · omega
        · obtain ⟨T, gT, g⟩ : ∃ T : Nat, T < N ∧ w = (T : Int) := by
            rcases hw with g | g
            · omega
            · exact g
          clear hw
          subst g
          obtain ⟨n01, fc, hfc, fcm⟩ := w7 T gT
          have i2 : I (r + 2) T = G (r + 2) T := congrFun (hI (r + 2) (by omega) (by omega)) T
          refine ⟨k1, r + 2, am_rq (i := 1) hB hr rfl rfl, _, Or.inl ⟨by unfold am_nc; omega, am_kq (i := 2) hB hr (by decide) rfl⟩, ⟨by omega, by omega⟩, am_nm_k i2 (fun z hz _ _ => ?_)⟩
          rw [hz]
          refine ⟨fun h0 => old ?_, fun h1 => ⟨k1, r + 3, am_rq (i := 1) hB hr rfl rfl, _, am_kq (i := 3) hB hr (by decide) rfl, ⟨by omega, by omega⟩, am_nm_k ((congrFun (hI (r + 3) (by omega) (by omega)) T).trans hfc) ?_⟩⟩
          · rintro ⟨-, g2⟩
            have g2 : G (r + 2) T = 1 := g2
            omega
          · rintro _ rfl _ _
            have hnw : ((T : Int) ≠ 6 ∧ G (r + 2) ((T : Int)).toNat = 1) := ⟨by omega, by show G (r + 2) T = 1; omega⟩
            rw [if_pos hnw, Int.toNat_natCast, hfc, Int.toNat_natCast] at hl post
            exact ⟨(am_kk hB rfl), xv_con hB hW0 ih (by omega) (by omega) fcm hI hL hl hp1 (fun I2 f2 h2 => ⟨rfl, s_Search_writeValue_83 (s_Search_writeValue_149 (post I2 f2 h2))⟩)⟩
    refine e_Search_writeValue ⟨(am_kk hB rfl), 34, (am_rf hB rfl), (am_kk hB rfl), x_spotOf hB ((congrFun (hI 34 (by decide) (by decide)) 0).trans w1) hns (fun i hi h35 => ⟨_, rfl, s_Search_writeValue_8 ⟨fun _ => ⟨(am_kk hB rfl), 40, (am_rf hB rfl), _, (am_kk hB rfl), ⟨by omega, by omega⟩, am_nm_k (v := ec (K p)) ?_ (fun z hz _ _ => ?_)⟩, fun h => absurd h (by omega)⟩⟩) (fun hno => ⟨_, rfl, s_Search_writeValue_8 ⟨fun h => absurd rfl h, fun _ => ?_⟩⟩)⟩
    · show I 40 i = _
      rw [hI 40 (by decide) (by decide)]
      rw [hI 35 (by decide) (by decide)] at h35
      exact w2 i p hi h35
    · rw [hz]; exact at27 _
    · have hk : K p = -1 := w3 p (fun i hi => by
        have := hno i hi
        rw [hI 35 (by decide) (by decide)] at this
        exact this)
      have := at27 (-1)
      rw [hk] at this
      exact this
end XWS
