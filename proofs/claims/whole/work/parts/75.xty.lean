/-! THE CLASS READS TYPES: a type, all types -/
section XZ
variable {d n : Nat} {K : Nat → am_K} {I J : Nat → Nat → Int} {R : Nat → Nat → Option Nat} {Q : am_Q} {kd pl nu nm : Nat → Int} {c q r T C w p : Nat}
def xc_ok (kd pl nu nm : Nat → Int) (c r T C w q : Nat) (nw : Bool) (y : Nat) (I J I' J' : Nat → Nat → Int) (as : List Nat) : Prop := cs_sp kd q as ∧ as.length ≤ y ∧ (nw = true → as = [1]) ∧ xc_fr r T C I I' J J' ∧ q + cs_sz as ≤ c ∧ I' 13 7 = ((q + cs_sz as : Nat) : Int) ∧ I' (r + 1) 0 = ((T + 1 : Nat) : Int) ∧ I' (r + 1) 1 = ((C + as.length : Nat) : Int) ∧ I' (r + 4) T = ((w + as.length : Nat) : Int) ∧ xs_cons I' J' r pl nu nm T C q as
theorem x_cons {nw : Bool} (hB : am_B K R) (hr : r = 41 ∨ r = 71) (hT6 : T < 6) : ∀ (y q C w : Nat) (I J : Nat → Nat → Int) (Q : am_Q) (v : Int), ft_T I J kd pl nu nm c → I 13 7 = (q : Int) → q ≤ c → I (r + 1) 0 = ((T + 1 : Nat) : Int) → I (r + 1) 1 = (C : Int) → C + y ≤ 36 → I (r + 4) T = (w : Int) → w + y ≤ 36 → v + (y : Int) = 6 → 0 ≤ v →
    (∀ (I' J' : Nat → Nat → Int) (as : List Nat), xc_ok kd pl nu nm c r T C w q nw y I J I' J' as → Q (some (.inl 1)) (n, K, I', J', R)) →
    (∀ (I' J' : Nat → Nat → Int) (k : Nat), cs_bd kd nw y q k → k ≤ c → I' 13 7 = (k : Int) → xc_fr r T C I I' J J' → Q (some (.inl 0)) (n, K, I', J', R)) → am_WP (d + 3) (89, 61, [.inr (.inl 12), .inr (.inl (r + 1)), .inl (xt_v nw), .inl v], [], (0, 0), n, K, I, J, R) Q := by
  intro y
  induction y with
  | zero =>
    intro q C w I J Q v hT hi hc hT0 hC0 hC6 hw hw2 hv hv0 ok bad
    exact s_Form_readType_61 ⟨fun _ => ⟨Or.inl rfl, bad I J q rfl hc hi xc_refl⟩, fun h => absurd h (by omega)⟩
  | succ y ih =>
    intro q C w I J Q v hT hi hc hT0 hC0 hC6 hw hw2 hv hv0 ok bad
    refine s_Form_readType_61 ⟨fun h => absurd h (by omega), fun _ => ⟨(am_kk hB rfl), x_readCon hB hr hT hi hc hT0 hC0 hT6 (by omega) hw (by omega) (fun I1 J1 a hP ha3 hn1 hn0 => ⟨_, rfl, ?_⟩) (fun I1 J1 k hk hkc hki hf => ⟨_, rfl, ?_⟩)⟩⟩
    · obtain ⟨p1, p2, p3, p4, p5, p6, p7, p8, p9, p10, p11, p12, p13⟩ := hP
      have hT1 := ft_T_xy hr hT p1.1
      have es : q + (a + 2) = q + 1 + a + 1 := by omega
      refine s_Form_readType_73 ⟨fun _ => ⟨(am_kk hB rfl), x_pass hB hT1 p5 p4 ⟨by decide, by decide⟩ (fun h59 hl => ⟨_, rfl, s_Form_readType_84 ⟨fun h => absurd h (by decide), fun _ => ⟨Or.inr rfl, ?_⟩⟩⟩) (fun h59 => ⟨_, rfl, s_Form_readType_84 ⟨fun _ => ⟨fun hx => ⟨Or.inl rfl, ?_⟩, fun hx => ⟨(am_kk hB rfl), ?_⟩⟩, fun h => absurd rfl h⟩⟩)⟩, fun h => absurd h (by decide)⟩
      · have ez : cs_sz [a] = a + 2 := by simp [cs_sz, ls_sz]
        refine ok _ J1 [a] ⟨⟨p2, ha3, p3, Or.inl ⟨rfl, h59⟩⟩, by simp, fun h => by rw [hn1 h], xc_ut hr p1 (by omega), by rw [ez]; omega, ?_, (am_u_ne (by omega)).trans p6, (am_u_ne (by omega)).trans p7, (am_u_ne (by omega)).trans p8, ⟨(am_u_ne (by omega)).trans p9, (am_u_ne (by omega)).trans p10, p11, (am_u_ne (by omega)).trans p12, fun z hz => ⟨(am_u_ne (by omega)).trans (p13 z hz).1, (am_u_ne (by omega)).trans (p13 z hz).2⟩, trivial⟩⟩
        rw [ez, es]; exact am_u_kk
      · have en : nw = true := by
          cases nw
          · exact absurd rfl hx
          · rfl
        have ea := hn1 en
        exact bad I1 J1 (q + 1 + a) (Or.inr ⟨p2, a, ha3, p3, Or.inr (Or.inl ⟨en, ea, h59, rfl⟩)⟩) p4 p5 p1
      · have en : nw = false := by
          cases nw
          · rfl
          · exact absurd hx (by decide)
        refine x_pass hB hT1 p5 p4 ⟨by decide, by decide⟩ (fun h124 hl => ⟨_, rfl, s_Form_readType_99 ⟨fun _ => am_ar_i (by omega) (by omega) ?_, fun h => absurd h (by decide)⟩⟩) (fun h124 => ⟨_, rfl, s_Form_readType_99 ⟨fun h => absurd rfl h, fun _ => ⟨Or.inl rfl, bad I1 J1 (q + 1 + a) (Or.inr ⟨p2, a, ha3, p3, Or.inr (Or.inr (Or.inl ⟨en, hn0 en, h59, h124, rfl⟩))⟩) p4 p5 p1⟩⟩⟩)
        have hT2 : ft_T (am_u I1 13 7 ((q + 1 + a + 1 : Nat) : Int)) J1 kd pl nu nm c := ft_T_cur hT1
        refine ih (q + (a + 2)) (C + 1) (w + 1) (am_u I1 13 7 ((q + 1 + a + 1 : Nat) : Int)) J1 Q (v + 1) hT2 (by rw [es]; exact am_u_kk) (by omega) ((am_u_ne (by omega)).trans p6) ((am_u_ne (by omega)).trans p7) (by omega) ((am_u_ne (by omega)).trans p8) (by omega) (by omega) (by omega) (fun I2 J2 as h2 => ?_) (fun I2 J2 k hk hkc hki hf => ?_)
        · obtain ⟨a1, a2, a3, a4, a5, a6, a7, a8, a9, a10⟩ := h2
          have eL : cs_sz (a :: as) = (a + 2) + cs_sz as := rfl
          have ne : as ≠ [] := by
            intro e
            rw [e] at a1
            exact a1
          have f2 : xc_fr r T C I I2 J J2 := xc_trans (xc_ut (a := 13) (k := 7) (v := ((q + 1 + a + 1 : Nat) : Int)) hr p1 (by omega)) a4 (by omega)
          have tr : ∀ x j : Nat, ¬ (x = 13 ∧ j = 7) → ¬ (x = r + 1 ∧ (j = 0 ∨ j = 1)) → ¬ ((x = r + 2 ∨ x = r + 3 ∨ x = r + 4 ∨ x = r + 9 ∨ x = r + 10) ∧ T ≤ j) → ¬ ((x = r + 5 ∨ x = r + 6 ∨ x = r + 11) ∧ C + 1 ≤ j) → ¬ ((x = r + 12 ∨ x = r + 13) ∧ 3 * (C + 1) ≤ j) → I2 x j = I1 x j := fun x j b1 b2 b3 b4 b5 => (a4.1.1 x j b1 b2 b3 b4 b5).trans (am_u_off b1)
          refine ok I2 J2 (a :: as) ⟨⟨p2, ha3, p3, Or.inr ⟨ne, h124, a1⟩⟩, by show as.length + 1 ≤ y + 1; omega, fun h => absurd h (by rw [en]; decide), f2, by rw [eL]; omega, by rw [eL, ← Nat.add_assoc]; exact a6, a7, by rw [a8]; show ((C + 1 + as.length : Nat) : Int) = ((C + (as.length + 1) : Nat) : Int); omega, by rw [a9]; show ((w + 1 + as.length : Nat) : Int) = ((w + (as.length + 1) : Nat) : Int); omega, ⟨?_, ?_, ?_, ?_, fun z hz => ⟨?_, ?_⟩, a10⟩⟩
          · rw [tr _ _ (by omega) (by omega) (by omega) (by omega) (by omega), p9]
          · rw [tr _ _ (by omega) (by omega) (by omega) (by omega) (by omega), p10]
          · rw [a4.1.2 _ _ (by omega), p11]
          · rw [tr _ _ (by omega) (by omega) (by omega) (by omega) (by omega), p12]
          · rw [tr _ _ (by omega) (by omega) (by omega) (by omega) (by omega), (p13 z hz).1]
          · rw [tr _ _ (by omega) (by omega) (by omega) (by omega) (by omega), (p13 z hz).2]
        · exact bad I2 J2 k (Or.inr ⟨p2, a, ha3, p3, Or.inr (Or.inr (Or.inr ⟨en, h124, hk⟩))⟩) hkc hki (xc_trans (xc_ut (a := 13) (k := 7) (v := ((q + 1 + a + 1 : Nat) : Int)) hr p1 (by omega)) hf (by omega))
    · refine s_Form_readType_73 ⟨fun h => absurd rfl h, fun _ => ⟨Or.inl rfl, bad I1 J1 k ?_ hkc hki hf⟩⟩
      rcases hk with ⟨h1, h2⟩ | ⟨h0, h1, h2, h3⟩
      · exact Or.inl ⟨h1, h2⟩
      · exact Or.inr ⟨h1, 0, by decide, fun z hz => absurd hz (by omega), Or.inl ⟨h0, rfl, h2, h3⟩⟩
/-- a type, the token that stands behind its first word -/
theorem x_readType {nw : Bool} (hB : am_B K R) (hr : r = 41 ∨ r = 71) (hT : ft_T I J kd pl nu nm c) (hi : I 13 7 = ((p + 1 : Nat) : Int)) (hc : p + 1 ≤ c) (hT0 : I (r + 1) 0 = (T : Int)) (hC0 : I (r + 1) 1 = (C : Int)) (hT6 : T ≤ 6) (hC6 : C + 6 ≤ 36 ∨ T = 6) (hkd : kd p = (bif nw then 7 else 6))
    (ok : ∀ (I' J' : Nat → Nat → Int) (t : ty), T < 6 → ty_sp kd p t → xy_fr r T C I I' J J' → p + ty_sz t ≤ c → I' 13 7 = ((p + ty_sz t : Nat) : Int) → I' (r + 1) 0 = ((T + 1 : Nat) : Int) → I' (r + 1) 1 = ((C + t.2.length : Nat) : Int) → I' (r + 9) T = nu (p + 1) → I' (r + 10) T = pl (p + 1) → I' (r + 2) T = xt_v t.1 → I' (r + 3) T = (C : Int) → I' (r + 4) T = (t.2.length : Int) → xs_cons I' J' r pl nu nm T C (p + 3) t.2 → Q (some (.inl 1)) (n, K, I', J', R))
    (bad : ∀ (I' J' : Nat → Nat → Int) (k : Nat), (T < 6 ∧ ty_bd kd nw p k ∨ T = 6 ∧ k = p + 1) → k ≤ c → I' 13 7 = (k : Int) → xy_fr r T C I I' J J' → Q (some (.inl 0)) (n, K, I', J', R)) : am_WP (d + 3) (am_entry 89 [.inr (.inl 12), .inr (.inl (r + 1)), .inl (xt_v nw)] (n, K, I, J, R)) Q := by
  have k0 : K (r + 1) = .inl 10 := am_kq (i := 1) hB hr (by decide) rfl
  refine e_Form_readType ⟨(am_kk hB rfl), _, (am_rf hB rfl), (am_kk hB rfl), x_kind hB hT hi hc ⟨_, rfl, s_Form_readType_7 ⟨fun h => ⟨Or.inl rfl, bad I J (p + 1) ?_ hc hi xy_refl⟩, fun h => ⟨k0, am_nm_k hT0 ?_⟩⟩⟩⟩
  · by_cases e : T = 6
    · exact Or.inr ⟨e, rfl⟩
    · exact Or.inl ⟨by omega, Or.inl ⟨h, rfl⟩⟩
  rintro _ rfl _ _
  refine ⟨fun h6 => ⟨(am_kk hB rfl), _, (am_rf hB rfl), (am_kk hB rfl), ?_⟩, fun h6 => ⟨Or.inl rfl, bad I J (p + 1) (Or.inr ⟨by omega, rfl⟩) hc hi xy_refl⟩⟩
  have hlt : p + 1 < c := ft_lt hT hc (by rw [h]; decide) (by rw [h]; decide)
  refine x_number hB hT hi hc ⟨_, rfl, s_Form_readType_30 ⟨(am_kk hB rfl), _, (am_rf hB rfl), (am_kk hB rfl), x_at hB hT hi hc ⟨_, rfl, s_Form_readType_37 ⟨k0, x_addType hB hr hT0 hC0 (by omega) ?_⟩⟩⟩⟩
  intro I1 f1 g0 g1 g2 g3 g4 g5 g6 g7
  have hT1 := ft_T_xy hr hT f1
  refine ⟨rfl, s_Form_readType_41 ⟨(am_kk hB rfl), _, (am_rf hB rfl), (am_kk hB rfl), x_adv hB hT1 (g0.trans hi) hlt ⟨rfl, ?_⟩⟩⟩
  have hT2 : ft_T (am_u I1 13 7 ((p + 1 + 1 : Nat) : Int)) J kd pl nu nm c := ft_T_cur hT1
  have f2 : xy_fr r T C I (am_u I1 13 7 ((p + 1 + 1 : Nat) : Int)) J J := xy_ut f1 (by omega)
  refine s_Form_readType_48 ⟨(am_kk hB rfl), x_pass hB hT2 am_u_kk hlt ⟨by decide, by decide⟩ (fun h61 hl => ⟨_, rfl, s_Form_readType_54 ⟨fun _ => ?_, fun h => absurd h (by decide)⟩⟩) (fun h61 => ⟨_, rfl, s_Form_readType_54 ⟨fun h => absurd rfl h, fun _ => ⟨Or.inl rfl, bad _ J (p + 2) (Or.inl ⟨by omega, Or.inr (Or.inl ⟨h, h61, rfl⟩)⟩) hlt am_u_kk f2⟩⟩⟩)⟩
  have hT3 : ft_T (am_u (am_u I1 13 7 ((p + 1 + 1 : Nat) : Int)) 13 7 ((p + 1 + 1 + 1 : Nat) : Int)) J kd pl nu nm c := ft_T_cur hT2
  have f3 : xy_fr r T C I (am_u (am_u I1 13 7 ((p + 1 + 1 : Nat) : Int)) 13 7 ((p + 1 + 1 + 1 : Nat) : Int)) J J := xy_ut f2 (by omega)
  have tr : ∀ x j : Nat, x ≠ 13 → am_u (am_u I1 13 7 ((p + 1 + 1 : Nat) : Int)) 13 7 ((p + 1 + 1 + 1 : Nat) : Int) x j = I1 x j := fun x j hx => (am_u_ne hx).trans (am_u_ne hx)
  have c3 : am_u (am_u I1 13 7 ((p + 1 + 1 : Nat) : Int)) 13 7 ((p + 1 + 1 + 1 : Nat) : Int) 13 7 = ((p + 3 : Nat) : Int) := am_u_kk
  generalize am_u (am_u I1 13 7 ((p + 1 + 1 : Nat) : Int)) 13 7 ((p + 1 + 1 + 1 : Nat) : Int) = I3 at *
  refine x_cons hB hr (by omega) 6 (p + 3) C 0 I3 J Q 0 hT3 c3 (by omega) ((tr _ _ (by omega)).trans g1) ((tr _ _ (by omega)).trans g2) (by omega) ((tr _ _ (by omega)).trans g7) (by decide) (by decide) (by decide) (fun I4 J4 as h4 => ?_) (fun I4 J4 k hk hkc hki hf => bad I4 J4 k (Or.inl ⟨by omega, Or.inr (Or.inr ⟨h, h61, hk⟩)⟩) hkc hki (xy_trans f3 hf.1 (Nat.le_refl _) (Nat.le_refl _)))
  obtain ⟨a1, a2, a3, a4, a5, a6, a7, a8, a9, a10⟩ := h4
  have ez : p + ty_sz (nw, as) = p + 3 + cs_sz as := by show p + (3 + cs_sz as) = _; omega
  refine ok I4 J4 (nw, as) (by omega) ⟨hkd, h, h61, a1, a2, a3⟩ (xy_trans f3 a4.1 (Nat.le_refl _) (Nat.le_refl _)) (by rw [ez]; exact a5) (by rw [ez]; exact a6) a7 a8 ?_ ?_ ?_ ?_ ?_ a10
  · rw [a4.2.1, tr _ _ (by omega), g3]
  · rw [a4.2.2.1, tr _ _ (by omega), g4]
  · rw [a4.2.2.2.1, tr _ _ (by omega), g5]
  · rw [a4.2.2.2.2, tr _ _ (by omega), g6]
  · rw [a9, Nat.zero_add]
def xs_ok (kd pl nu nm : Nat → Int) (c r T C p : Nat) (y : Nat) (I J I' J' : Nat → Nat → Int) (ts : List ty) (j : Nat) : Prop := ts_sp kd p ts j ∧ kd j = 8 ∧ ts.length ≤ y ∧ (y = 6 → ts ≠ []) ∧ j ≤ c ∧ xy_fr r T C I I' J J' ∧ I' 13 7 = (j : Int) ∧ I' (r + 1) 0 = ((T + ts.length : Nat) : Int) ∧ I' (r + 1) 1 = ((C + ts_cn ts : Nat) : Int) ∧ xs_types I' J' r pl nu nm T C p ts
theorem x_types (hB : am_B K R) (hr : r = 41 ∨ r = 71) : ∀ (y p T C : Nat) (I J : Nat → Nat → Int) (Q : am_Q) (u : Bool × Int), ft_T I J kd pl nu nm c → I 13 7 = (p : Int) → p ≤ c → I (r + 1) 0 = (T : Int) → I (r + 1) 1 = (C : Int) → C + 6 * y ≤ 36 → T + y = 6 →
    (∀ (I' J' : Nat → Nat → Int) (ts : List ty) (j : Nat), xs_ok kd pl nu nm c r T C p y I J I' J' ts j → Q (some (.inl 1)) (n, K, I', J', R)) →
    (∀ (I' J' : Nat → Nat → Int) (k : Nat), ts_bd kd y p k → k ≤ c → I' 13 7 = (k : Int) → xy_fr r T C I I' J J' → Q (some (.inl 0)) (n, K, I', J', R)) → am_WP (d + 4) (88, 2, [.inr (.inl 12), .inr (.inl (r + 1)), .inl (T : Int), am_o], [], (0, 0), n, K, I, J, R) Q := by
  intro y
  induction y with
  | zero =>
    intro p T C I J Q u hT hi hc hT0 hC0 hC6 hTy ok bad
    refine s_Form_readTypes_2 ⟨fun h => absurd h (by omega), fun _ => ⟨(am_kk hB rfl), _, (am_rf hB rfl), (am_kk hB rfl), x_kind hB hT hi hc ⟨_, rfl, ?_⟩⟩⟩
    have go : (kd p = 6 ∨ kd p = 7) → ∀ nw : Bool, kd p = (bif nw then 7 else 6) → am_WP (d + 4) (88, 46, [.inr (.inl 12), .inr (.inl (r + 1)), .inl (T : Int), .inl (kd p)], [], (0, 0), n, K, I, J, R) Q := by
      intro h67 nw hnw
      have hlt : p < c := ft_lt hT hc (by omega) (by omega)
      refine s_Form_readTypes_46 ⟨(am_kk hB rfl), _, (am_rf hB rfl), (am_kk hB rfl), x_adv hB hT hi hlt ⟨rfl, ?_⟩⟩
      have key : am_WP (d + 4) (88, 66, [.inr (.inl 12), .inr (.inl (r + 1)), .inl (T : Int), .inl (kd p)], [.inl (xt_v nw), .inr (.inl (r + 1)), .inr (.inl 12)], (0, 0), n, K, am_u I 13 7 ((p + 1 : Nat) : Int), J, R) Q := by
        refine s_Form_readTypes_66 ⟨(am_kk hB rfl), x_readType hB hr (ft_T_cur hT) am_u_kk hlt ((am_u_ne (by omega)).trans hT0) ((am_u_ne (by omega)).trans hC0) (by omega) (Or.inr (by omega)) hnw (fun I1 J1 t h6 => absurd h6 (by omega)) (fun I1 J1 k hk hkc hki hf => ⟨_, rfl, s_Form_readTypes_69 ⟨fun h => absurd rfl h, fun _ => ⟨Or.inl rfl, ?_⟩⟩⟩)⟩
        refine bad I1 J1 k (Or.inl ⟨h67, ?_⟩) hkc hki (xy_trans (xy_up (by omega)) hf (Nat.le_refl _) (Nat.le_refl _))
        rcases hk with h | h
        · exact absurd h.1 (by omega)
        · exact h.2
      cases nw with
      | false => exact s_Form_readTypes_53 ⟨fun _ => key, fun h => absurd (h.symm.trans hnw) (by decide)⟩
      | true => exact s_Form_readTypes_53 ⟨fun h => absurd hnw h, fun _ => key⟩
    refine s_Form_readTypes_15 ⟨fun h8 => ⟨fun h6 => go (Or.inl h6) false h6, fun h6 => ⟨fun h7 => go (Or.inr h7) true h7, fun h7 => ⟨Or.inl rfl, bad I J p (Or.inr ⟨h6, h7, h8, rfl⟩) hc hi xy_refl⟩⟩⟩, fun h8 => ⟨fun h => absurd h (by omega), fun _ => s_Form_readTypes_31 ⟨Or.inr rfl, ok I J [] p ⟨rfl, h8, by simp, fun h => absurd h (by decide), hc, xy_refl, hi, hT0, hC0, trivial⟩⟩⟩⟩
  | succ y ih =>
    intro p T C I J Q u hT hi hc hT0 hC0 hC6 hTy ok bad
    refine s_Form_readTypes_2 ⟨fun h => absurd h (by omega), fun _ => ⟨(am_kk hB rfl), _, (am_rf hB rfl), (am_kk hB rfl), x_kind hB hT hi hc ⟨_, rfl, ?_⟩⟩⟩
    have go : (kd p = 6 ∨ kd p = 7) → ∀ nw : Bool, kd p = (bif nw then 7 else 6) → am_WP (d + 4) (88, 46, [.inr (.inl 12), .inr (.inl (r + 1)), .inl (T : Int), .inl (kd p)], [], (0, 0), n, K, I, J, R) Q := by
      intro h67 nw hnw
      have hlt : p < c := ft_lt hT hc (by omega) (by omega)
      refine s_Form_readTypes_46 ⟨(am_kk hB rfl), _, (am_rf hB rfl), (am_kk hB rfl), x_adv hB hT hi hlt ⟨rfl, ?_⟩⟩
      have key : am_WP (d + 4) (88, 66, [.inr (.inl 12), .inr (.inl (r + 1)), .inl (T : Int), .inl (kd p)], [.inl (xt_v nw), .inr (.inl (r + 1)), .inr (.inl 12)], (0, 0), n, K, am_u I 13 7 ((p + 1 : Nat) : Int), J, R) Q := by
        refine s_Form_readTypes_66 ⟨(am_kk hB rfl), x_readType hB hr (ft_T_cur hT) am_u_kk hlt ((am_u_ne (by omega)).trans hT0) ((am_u_ne (by omega)).trans hC0) (by omega) (Or.inl (by omega)) hnw (fun I1 J1 t h6 t1 t2 t3 t4 t5 t6 t7 t8 t9 t10 t11 t12 => ⟨_, rfl, s_Form_readTypes_69 ⟨fun _ => am_ar_i (by omega) (by omega) ?_, fun h => absurd h (by decide)⟩⟩) (fun I1 J1 k hk hkc hki hf => ⟨_, rfl, s_Form_readTypes_69 ⟨fun h => absurd rfl h, fun _ => ⟨Or.inl rfl, ?_⟩⟩⟩)⟩
        · have l6 := t1.2.2.2.2.1
          have f1 : xy_fr r T C I I1 J J1 := xy_trans (xy_up (by omega)) t2 (Nat.le_refl _) (Nat.le_refl _)
          have hT1 := ft_T_xy hr hT f1
          have g := ih (p + ty_sz t) (T + 1) (C + t.2.length) I1 J1 Q u hT1 t4 t3 t5 t6 (by omega) (by omega) (fun I2 J2 ts j h2 => ?_) (fun I2 J2 k hk hkc hki hf => ?_)
          · exact am_WP.forget g _ (am_le_eq (am_le_eq (am_le_eq (am_le_o am_le_nil))))
          · obtain ⟨b1, b2, b3, b4, b5, b6, b7, b8, b9, b10⟩ := h2
            refine ok I2 J2 (t :: ts) j ⟨⟨p + ty_sz t, ⟨t1, rfl⟩, b1⟩, b2, by show ts.length + 1 ≤ y + 1; omega, fun _ => by simp, b5, xy_trans f1 b6 (by omega) (by omega), b7, by rw [b8]; show ((T + 1 + ts.length : Nat) : Int) = ((T + (ts.length + 1) : Nat) : Int); omega, by rw [b9]; show ((C + t.2.length + ts_cn ts : Nat) : Int) = ((C + (t.2.length + ts_cn ts) : Nat) : Int); omega, ?_, ?_, ?_, ?_, ?_, xs_cons_fr b6 hr t.2 C (p + 3) (cs_sp_le _ _ t1.2.2.2.1) t12 (Nat.le_refl _), b10⟩
            · rw [b6.1 _ _ (by omega) (by omega) (by omega) (by omega) (by omega), t7]
            · rw [b6.1 _ _ (by omega) (by omega) (by omega) (by omega) (by omega), t8]
            · rw [b6.1 _ _ (by omega) (by omega) (by omega) (by omega) (by omega), t9]
            · rw [b6.1 _ _ (by omega) (by omega) (by omega) (by omega) (by omega), t10]
            · rw [b6.1 _ _ (by omega) (by omega) (by omega) (by omega) (by omega), t11]
          · exact bad I2 J2 k (Or.inr (Or.inr (Or.inr ⟨t, t1, hk⟩))) hkc hki (xy_trans f1 hf (by omega) (by omega))
        · refine bad I1 J1 k (Or.inr (Or.inr (Or.inl ⟨nw, hnw, ?_⟩))) hkc hki (xy_trans (xy_up (by omega)) hf (Nat.le_refl _) (Nat.le_refl _))
          rcases hk with h | h
          · exact h.2
          · exact absurd h.1 (by omega)
      cases nw with
      | false => exact s_Form_readTypes_53 ⟨fun _ => key, fun h => absurd (h.symm.trans hnw) (by decide)⟩
      | true => exact s_Form_readTypes_53 ⟨fun h => absurd hnw h, fun _ => key⟩
    refine s_Form_readTypes_15 ⟨fun h8 => ⟨fun h6 => go (Or.inl h6) false h6, fun h6 => ⟨fun h7 => go (Or.inr h7) true h7, fun h7 => ⟨Or.inl rfl, bad I J p (Or.inr (Or.inl ⟨h6, h7, h8, rfl⟩)) hc hi xy_refl⟩⟩⟩, fun h8 => ⟨fun h => s_Form_readTypes_31 ⟨Or.inl rfl, bad I J p (Or.inl ⟨by omega, h8, rfl⟩) hc hi xy_refl⟩, fun h => s_Form_readTypes_31 ⟨Or.inr rfl, ok I J [] p ⟨rfl, h8, by simp, fun h => absurd h (by omega), hc, xy_refl, hi, hT0, hC0, trivial⟩⟩⟩⟩
end XZ
