section SCAN4
variable {d n : Nat} {K : Nat → am_K} {R : Nat → Nat → Option Nat} {Q : am_Q}
theorem m_scan_l {I0 J0 : Nat → Nat → Int} {b : Nat → Int} {len : Nat} (hB : am_B K R) (hL : len ≤ 1200) (hb : ∀ j : Nat, j < len → I0 102 j % 256 = b j) (hby : ∀ j : Nat, j < len → 0 ≤ b j ∧ b j ≤ 255)
    (post : ∀ (I J : Nat → Nat → Int) (t : Nat), (∀ a j : Nat, ¬ (a = 101 ∧ j = 3) → a ≠ 103 → a ≠ 104 → I a j = I0 a j) → (∀ a j : Nat, a ≠ 105 → J a j = J0 a j) → I 101 3 = (t : Int) + 1 → tm_fin b I J len t → Q none (n, K, I, J, R)) : ∀ (m i t : Nat) (I J : Nat → Nat → Int), len ≤ i + m → i ≤ len → t ≤ i → I 101 1 = (len : Int) → I 101 3 = (t : Int) → (∀ a j : Nat, ¬ (a = 101 ∧ j = 3) → a ≠ 103 → a ≠ 104 → I a j = I0 a j) → (∀ a j : Nat, a ≠ 105 → J a j = J0 a j) → tm_pre b I J len t i → am_WP (d + 2) (22, 9, [.inr (.inl 101), .inl (i : Int), .inl 1, am_o, am_o, am_o], [], (0, 0), n, K, I, J, R) Q := by
  intro m
  induction m with
  | zero =>
    intro i t I J h1 h2 h3 hl ht hfI hfJ hpre
    have hb' : ∀ j : Nat, j < len → I 102 j % 256 = b j := fun j hj => by rw [hfI 102 j (by omega) (by omega) (by omega)]; exact hb j hj
    refine s_M_scan_9 ⟨fun h => absurd h (by decide), fun _ => ⟨(am_kk hB rfl), m_byteAtv hB hl hL hb' ⟨_, rfl, s_M_scan_18 (m_scan_bl (i0 := i) hB hl hL hb' (fun p hr => ?_) len i (by omega) (by omega) h2 (fun j a c => by omega))⟩⟩⟩
    have hpl : p = len := by have := hr.1; have := hr.2.1; omega
    have ev : tb_bv b len p = -1 := by unfold tb_bv; rw [if_neg (by omega)]
    rw [ev]
    refine s_M_scan_19 ⟨fun h => absurd h (by decide), fun _ => ⟨fun _ => ⟨(am_kk hB rfl), _, (am_rf hB rfl), (am_kk hB rfl), am_nm_k ht ?_⟩, fun h => absurd h (by decide)⟩⟩
    rintro _ rfl _ _
    refine ⟨_, by decide, (am_kk hB rfl), ⟨by omega, by omega⟩, (am_kk hB rfl), _, (am_rf hB rfl), (am_kk hB rfl), am_nm_ne (by decide) (am_nm_k ht ?_)⟩
    rintro _ rfl _ _
    refine ⟨_, by decide, (am_kk hB rfl), ⟨by omega, by omega⟩, fun h => absurd h (by decide), fun _ => ⟨(am_kk hB rfl), _, (am_rf hB rfl), (am_kk hB rfl), am_nm_ne (by decide) (am_nm_k ht ?_)⟩⟩
    rintro _ rfl _ _
    refine ⟨_, by decide, (am_kk hB rfl), ⟨by omega, by omega⟩, s_M_scan_242 ⟨(am_kk hB rfl), am_nm_ne (by decide) (am_nm_ne (by decide) (am_nm_k ht ?_))⟩⟩
    rintro _ rfl _ _
    refine am_ar_i (by omega) (by omega) ⟨⟨by decide, (am_kk hB rfl)⟩, am_WP.forget (s_M_scan_9 (x2 := 0) ⟨fun _ => post _ _ t ?_ ?_ ?_ ⟨i, ?_, ?_, ?_, ?_, by omega⟩, fun h => absurd rfl h⟩) _ (am_le_eq (am_le_eq (am_le_eq (am_le_o (am_le_eq (am_le_eq am_le_nil))))))⟩
    · intro a j g1 g2 g3
      rw [show am_u (am_u (am_u I 104 (Int.toNat (t : Int)) (p : Int)) 103 (Int.toNat (t : Int)) 0) 101 3 ((t : Int) + 1) a j = I a j from ?_]
      · exact hfI a j g1 g2 g3
      · by_cases ea : a = 101
        · subst ea
          rw [am_u_kn (fun e => g1 ⟨rfl, e⟩), am_u_ne (by decide), am_u_ne (by decide)]
        · rw [am_u_ne ea, am_u_ne g2, am_u_ne g3]
    · intro a j g1
      rw [am_u_ne g1]; exact hfJ a j g1
    · exact am_u_kk
    · obtain ⟨ps, es, e0, et, ec⟩ := hpre
      refine ⟨ps, es, e0, et, fun k hk => ?_⟩
      have := ec k hk
      rw [am_u_ne (by decide), am_u_ne (by decide), am_u_kn (show k ≠ Int.toNat (t : Int) by omega), am_u_ne (by decide), am_u_kn (show k ≠ Int.toNat (t : Int) by omega), am_u_ne (by decide), am_u_kn (show k ≠ Int.toNat (t : Int) by omega)]
      exact this
    · rw [hpl] at hr; exact hr
    · rw [am_u_ne (by decide), am_u_ne (by decide), show am_u I 104 (Int.toNat (t : Int)) (p : Int) 104 t = (p : Int) from am_u_kk, hpl]
    · rw [am_u_ne (by decide)]; exact am_u_kk
  | succ m ih =>
    intro i t I J h1 h2 h3 hl ht hfI hfJ hpre
    have hb' : ∀ j : Nat, j < len → I 102 j % 256 = b j := fun j hj => by rw [hfI 102 j (by omega) (by omega) (by omega)]; exact hb j hj
    refine s_M_scan_9 ⟨fun h => absurd h (by decide), fun _ => ⟨(am_kk hB rfl), m_byteAtv hB hl hL hb' ⟨_, rfl, s_M_scan_18 (m_scan_bl (i0 := i) hB hl hL hb' (fun p hr => ?_) len i (by omega) (by omega) h2 (fun j a c => by omega))⟩⟩⟩
    by_cases hpl : p < len
    · have ev : tb_bv b len p = b p := by unfold tb_bv; rw [if_pos hpl]
      have hnb := hr.2.2.2 hpl
      have hbp := hby p hpl
      have hip := hr.1
      unfold tb_bl at hnb
      rw [ev]
      -- what comes behind a token
      have nx : ∀ (q : Nat) (s w x3 : Int) (I' J' : Nat → Nat → Int), p < q → q ≤ len → tk_M b len p q s w → (∀ a j : Nat, a ≠ 103 → a ≠ 104 → I' a j = I a j) → (∀ a j : Nat, a ≠ 105 → J' a j = J a j) → (∀ k : Nat, k < t → I' 104 k = I 104 k ∧ I' 103 k = I 103 k ∧ J' 105 k = J 105 k) → I' 104 t = (p : Int) → I' 103 t = s → J' 105 t = w → am_WP (d + 2) (22, 242, [.inr (.inl 101), .inl (q : Int), .inl 1, .inl x3, am_o, am_o], [], (0, 0), n, K, I', J', R) Q := by
        intro q s w x3 I' J' g1 g2 g3 g4 g5 g6 g7 g8 g9
        have ht' : I' 101 3 = (t : Int) := (g4 101 3 (by decide) (by decide)).trans ht
        refine s_M_scan_242 ⟨(am_kk hB rfl), am_nm_k ht' ?_⟩
        rintro _ rfl _ _
        refine am_ar_i (by omega) (by omega) ⟨⟨by decide, (am_kk hB rfl)⟩, am_WP.forget (ih q (t + 1) _ J' (by omega) g2 (by omega) ?_ ?_ ?_ ?_ ?_) _ (am_le_eq (am_le_eq (am_le_eq (am_le_o (am_le_eq (am_le_eq am_le_nil))))))⟩
        · rw [am_u_kn (by decide), g4 101 1 (by decide) (by decide), hl]
        · rw [am_u_kk]; rfl
        · intro a j f1 f2 f3
          by_cases ea : a = 101
          · subst ea
            rw [am_u_kn (fun e => f1 ⟨rfl, e⟩), g4 _ _ f2 f3, hfI _ _ f1 f2 f3]
          · rw [am_u_ne ea, g4 a j f2 f3, hfI a j f1 f2 f3]
        · intro a j f1
          rw [g5 a j f1, hfJ a j f1]
        · refine tm_pre_next hpre (fun k hk => ?_) hr hpl g1 g2 ?_ ?_
          · rw [am_u_ne (by decide), am_u_ne (by decide)]; exact g6 k hk
          · rw [am_u_ne (by decide)]; exact g7
          · rw [am_u_ne (by decide), g8, g9]; exact g3
      have ht1 : am_u I 104 t (p : Int) 101 3 = (t : Int) := (am_u_ne (by decide)).trans ht
      have hl1 : am_u I 104 t (p : Int) 101 1 = (len : Int) := (am_u_ne (by decide)).trans hl
      have hb1 : ∀ j : Nat, j < len → am_u I 104 t (p : Int) 102 j % 256 = b j := fun j hj => by rw [am_u_ne (by decide)]; exact hb' j hj
      have nx2 : ∀ (q : Nat) (s w x3 : Int), p < q → q ≤ len → tk_M b len p q s w → am_WP (d + 2) (22, 242, [.inr (.inl 101), .inl (q : Int), .inl 1, .inl x3, am_o, am_o], [], (0, 0), n, K, am_u (am_u I 104 t (p : Int)) 103 t s, am_u (am_u J 105 t (b p)) 105 t w, R) Q := by
        intro q s w x3 g1 g2 g3
        refine nx q s w x3 _ _ g1 g2 g3 (fun a j f1 f2 => by rw [am_u_ne f1, am_u_ne f2]) (fun a j f1 => by rw [am_u_ne f1, am_u_ne f1]) (fun k hk => ⟨?_, ?_, ?_⟩) ?_ am_u_kk am_u_kk
        · rw [am_u_ne (by decide), am_u_kn (by omega)]
        · rw [am_u_kn (by omega), am_u_ne (by decide)]
        · rw [am_u_kn (by omega), am_u_kn (by omega)]
        · rw [am_u_ne (by decide)]; exact am_u_kk
      refine s_M_scan_19 ⟨fun h => absurd h (by omega), fun _ => ⟨fun _ => ⟨(am_kk hB rfl), _, (am_rf hB rfl), (am_kk hB rfl), am_nm_k ht ?_⟩, fun h => absurd h (by omega)⟩⟩
      rintro _ rfl _ _
      refine ⟨_, by decide, (am_kk hB rfl), ⟨by omega, by omega⟩, (am_kk hB rfl), _, (am_rf hB rfl), (am_kk hB rfl), am_nm_ne (by decide) (am_nm_k ht ?_)⟩
      rintro _ rfl _ _
      refine ⟨_, by decide, (am_kk hB rfl), ⟨by omega, by omega⟩, fun _ => m_isSmall (fun hs => ⟨_, rfl, s_M_scan_87 ⟨fun _ => ⟨(am_kk hB rfl), m_scanWord hB hl1 hL hb1 ht1 (by omega) hpl (Or.inl hs) (fun q s w g1 g2 g3 => ⟨_, rfl, s_M_scan_103 (nx2 q s w _ g1 g2 g3)⟩)⟩, fun h => absurd h (by decide)⟩⟩) (fun hs => ⟨_, rfl, s_M_scan_87 ⟨fun h => absurd rfl h, fun _ => m_isGreat (fun hg => ⟨_, rfl, s_M_scan_94 ⟨fun h => absurd h (by decide), fun _ => ⟨(am_kk hB rfl), m_scanWord hB hl1 hL hb1 ht1 (by omega) hpl (Or.inr hg) (fun q s w g1 g2 g3 => ⟨_, rfl, s_M_scan_103 (nx2 q s w _ g1 g2 g3)⟩)⟩⟩⟩) (fun hg => ⟨_, rfl, s_M_scan_94 ⟨fun _ => m_isFigure (fun hd => ⟨_, rfl, ?_⟩) (fun hd => ⟨_, rfl, ?_⟩), fun h => absurd rfl h⟩⟩)⟩⟩), fun h => absurd h (by omega)⟩
      · refine s_M_scan_111 ⟨fun h => absurd h (by decide), fun _ => ?_⟩
        have g := m_scan_dig (d := d + 1) (n := n) (J := am_u J 105 t (b p)) (Q := Q) (p := p) (t := t) (x2 := 1) hB hl1 hL hb1 ht1 (by omega) hpl hd (fun q s w x4 x5 g1 g2 g3 => am_WP.forget (nx2 q s w _ g1 g2 g3) _ (am_le_eq (am_le_eq (am_le_eq (am_le_eq (am_le_o (am_le_o am_le_nil))))))) len p 0 (by omega) (Nat.le_refl _) (by omega) (fun j a c => by omega) (Or.inl ⟨by omega, by rw [Nat.sub_self]; rfl⟩)
        rw [Nat.sub_self] at g
        exact g
      · refine s_M_scan_111 ⟨fun _ => ⟨(am_kk hB rfl), _, (am_rf hB rfl), (am_kk hB rfl), am_nm_k ht1 ?_⟩, fun h => absurd rfl h⟩
        rintro _ rfl _ _
        have fin : ∀ s : Int, tk_M b len p (p + 1) s (b p) → am_WP (d + 2) (22, 238, [.inr (.inl 101), .inl (p : Int), .inl 1, .inl (b p), am_o, am_o], [.inl s, .inl (t : Int), .inr (.inl 103)], (0, 0), n, K, am_u I 104 t (p : Int), am_u J 105 t (b p), R) Q := by
          intro s hM
          refine s_M_scan_238 ⟨_, by decide, (am_kk hB rfl), ⟨by omega, by omega⟩, am_ar_i (by omega) (by omega) ?_⟩
          refine nx (p + 1) s (b p) _ _ _ (by omega) (by omega) hM (fun a j f1 f2 => by rw [am_u_ne f1, am_u_ne f2]) (fun a j f1 => by rw [am_u_ne f1]) (fun k hk => ⟨?_, ?_, ?_⟩) ?_ am_u_kk am_u_kk
          · rw [am_u_ne (by decide), am_u_kn (by omega)]
          · rw [am_u_kn (by omega), am_u_ne (by decide)]
          · rw [am_u_kn (by omega)]
          · rw [am_u_ne (by decide)]; exact am_u_kk
        exact m_isSignByte (fun hg2 => ⟨_, rfl, s_M_scan_229 ⟨fun h => absurd h (by decide), fun _ => fin 6 (Or.inr (Or.inr ⟨fun k => k.elim hs hg, hd, rfl, Or.inl ⟨hg2, rfl, rfl⟩⟩))⟩⟩) (fun hg2 => ⟨_, rfl, s_M_scan_229 ⟨fun _ => fin 1 (Or.inr (Or.inr ⟨fun k => k.elim hs hg, hd, rfl, Or.inr ⟨hg2, rfl⟩⟩)), fun h => absurd rfl h⟩⟩)
    · have hpl : p = len := by have := hr.2.1; omega
      have ev : tb_bv b len p = -1 := by unfold tb_bv; rw [if_neg (by omega)]
      rw [ev]
      refine s_M_scan_19 ⟨fun h => absurd h (by decide), fun _ => ⟨fun _ => ⟨(am_kk hB rfl), _, (am_rf hB rfl), (am_kk hB rfl), am_nm_k ht ?_⟩, fun h => absurd h (by decide)⟩⟩
      rintro _ rfl _ _
      refine ⟨_, by decide, (am_kk hB rfl), ⟨by omega, by omega⟩, (am_kk hB rfl), _, (am_rf hB rfl), (am_kk hB rfl), am_nm_ne (by decide) (am_nm_k ht ?_)⟩
      rintro _ rfl _ _
      refine ⟨_, by decide, (am_kk hB rfl), ⟨by omega, by omega⟩, fun h => absurd h (by decide), fun _ => ⟨(am_kk hB rfl), _, (am_rf hB rfl), (am_kk hB rfl), am_nm_ne (by decide) (am_nm_k ht ?_)⟩⟩
      rintro _ rfl _ _
      refine ⟨_, by decide, (am_kk hB rfl), ⟨by omega, by omega⟩, s_M_scan_242 ⟨(am_kk hB rfl), am_nm_ne (by decide) (am_nm_ne (by decide) (am_nm_k ht ?_))⟩⟩
      rintro _ rfl _ _
      refine am_ar_i (by omega) (by omega) ⟨⟨by decide, (am_kk hB rfl)⟩, am_WP.forget (s_M_scan_9 (x2 := 0) ⟨fun _ => post _ _ t ?_ ?_ ?_ ⟨i, ?_, ?_, ?_, ?_, by omega⟩, fun h => absurd rfl h⟩) _ (am_le_eq (am_le_eq (am_le_eq (am_le_o (am_le_eq (am_le_eq am_le_nil))))))⟩
      · intro a j g1 g2 g3
        rw [show am_u (am_u (am_u I 104 (Int.toNat (t : Int)) (p : Int)) 103 (Int.toNat (t : Int)) 0) 101 3 ((t : Int) + 1) a j = I a j from ?_]
        · exact hfI a j g1 g2 g3
        · by_cases ea : a = 101
          · subst ea
            rw [am_u_kn (fun e => g1 ⟨rfl, e⟩), am_u_ne (by decide), am_u_ne (by decide)]
          · rw [am_u_ne ea, am_u_ne g2, am_u_ne g3]
      · intro a j g1
        rw [am_u_ne g1]; exact hfJ a j g1
      · exact am_u_kk
      · obtain ⟨ps, es, e0, et, ec⟩ := hpre
        refine ⟨ps, es, e0, et, fun k hk => ?_⟩
        have := ec k hk
        rw [am_u_ne (by decide), am_u_ne (by decide), am_u_kn (show k ≠ Int.toNat (t : Int) by omega), am_u_ne (by decide), am_u_kn (show k ≠ Int.toNat (t : Int) by omega), am_u_ne (by decide), am_u_kn (show k ≠ Int.toNat (t : Int) by omega)]
        exact this
      · rw [hpl] at hr; exact hr
      · rw [am_u_ne (by decide), am_u_ne (by decide), show am_u I 104 (Int.toNat (t : Int)) (p : Int) 104 t = (p : Int) from am_u_kk, hpl]
      · rw [am_u_ne (by decide)]; exact am_u_kk
theorem m_scan {I J : Nat → Nat → Int} {b : Nat → Int} {len : Nat} (hB : am_B K R) (hl : I 101 1 = (len : Int)) (hL : len ≤ 1200) (hb : ∀ j : Nat, j < len → I 102 j % 256 = b j) (hby : ∀ j : Nat, j < len → 0 ≤ b j ∧ b j ≤ 255)
    (post : ∀ (I' J' : Nat → Nat → Int) (t : Nat), (∀ a j : Nat, ¬ (a = 101 ∧ j = 3) → a ≠ 103 → a ≠ 104 → I' a j = I a j) → (∀ a j : Nat, a ≠ 105 → J' a j = J a j) → tm_fin b I' J' len t → Q none (n, K, I', J', R)) : am_WP (d + 2) (am_entry 22 [.inr (.inl 101)] (n, K, I, J, R)) Q := by
  refine e_M_scan ⟨⟨by decide, (am_kk hB rfl)⟩, m_scan_l (I0 := I) (J0 := J) hB hL hb hby (fun I' J' t g1 g2 _ g3 => post I' J' t g1 g2 g3) len 0 0 _ _ (by omega) (by omega) (by omega) ?_ am_u_kk ?_ (fun _ _ _ => rfl) ⟨fun _ => 0, fun _ => 0, rfl, rfl, fun k hk => absurd hk (Nat.not_lt_zero k)⟩⟩
  · rw [am_u_kn (by decide)]; exact hl
  · intro a j g1 g2 g3
    by_cases ea : a = 101
    · subst ea; rw [am_u_kn (fun e => g1 ⟨rfl, e⟩)]
    · rw [am_u_ne ea]
end SCAN4
