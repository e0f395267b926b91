/-! TEXT: the reference -/
def mx_fr (s : Nat) (I I' J J' : Nat → Nat → Int) : Prop := (∀ a j : Nat, ¬ (a = 101 ∧ (j = 1 ∨ j = 2 ∨ j = 3 ∨ j = 7 ∨ j = 8 ∨ j = 9 ∨ j = 10 ∨ j = 11 ∨ j = 13 ∨ (33 ≤ j ∧ j ≤ 37))) → a ≠ 103 → a ≠ 104 → a ≠ 106 → ¬ (122 ≤ a ∧ a ≤ 124) → ¬ (107 ≤ a ∧ a ≤ 121 ∧ mw a * s ≤ j ∧ j < mw a * s + mw a) → I' a j = I a j) ∧ ∀ a j : Nat, a ≠ 105 → ¬ (a = 110 ∧ 36 * s ≤ j ∧ j < 36 * s + 36) → J' a j = J a j
theorem mx_fo {s : Nat} {I I1 I2 J J1 : Nat → Nat → Int} (h : mx_fr s I I1 J J1) (h' : fo_fr I1 I2) : mx_fr s I I2 J J1 := ⟨fun a j g1 g2 g3 g4 g5 g6 => (h' a j (by omega) g4).trans (h.1 a j g1 g2 g3 g4 g5 g6), h.2⟩
theorem mx_mm {s : Nat} {I I1 I2 J J1 J2 : Nat → Nat → Int} (h : mx_fr s I I1 J J1) (h' : mm_fr s I1 I2 J1 J2) : mx_fr s I I2 J J2 := by
  refine ⟨fun a j g1 g2 g3 g4 g5 g6 => (h'.1 a j ?_).trans (h.1 a j g1 g2 g3 g4 g5 g6), fun a j g1 g2 => (h'.2 a j g2).trans (h.2 a j g1 g2)⟩
  rintro (q | q | q)
  · exact g1 ⟨q.1, by omega⟩
  · exact g5 q
  · exact g6 q
theorem mx_2 {s : Nat} {I I1 J J1 : Nat → Nat → Int} {v : Int} (h : mx_fr s I I1 J J1) : mx_fr s I (am_u I1 101 2 v) J J1 := ⟨fun a j g1 g2 g3 g4 g5 g6 => (am_u_off (by omega)).trans (h.1 a j g1 g2 g3 g4 g5 g6), h.2⟩
section MTX
variable {d n0 : Nat} {C : Nat → am_K} {I J : Nat → Nat → Int} {R : Nat → Nat → Option Nat} {Q : am_Q} {kd pl nu nm b : Nat → Int} {c len s : Nat}
theorem m_textS (hB : am_B C R) (hl : I 101 1 = (len : Int)) (hL : len ≤ 1200) (hb : ∀ j : Nat, j < len → I 102 j % 256 = b j) (hby : ∀ j : Nat, j < len → 0 ≤ b j ∧ b j ≤ 255) (hmt : ∀ (I' J' : Nat → Nat → Int) (t : Nat), tm_fin b I' J' len t → mt_T I' J' kd pl nu nm c) (go : ∀ I' J' : Nat → Nat → Int, mx_fr s I I' J J' → mt_T I' J' kd pl nu nm c → I' 101 1 = 0 → I' 101 7 = 0 → I' 101 8 = 0 → I' 101 2 = -1 → am_WP (d + 6) (am_entry 30 [.inr (.inl 101)] (n0, C, I', J', R)) (fun v1 s2 => v1 = none ∧ am_WP (d + 7) (51, 28, [.inr (.inl 101), am_o, am_o], [], (0, 0), s2) Q)) : am_WP (d + 7) (am_entry 51 [.inr (.inl 101)] (n0, C, I, J, R)) Q := by
  refine e_M_text ⟨(am_kk hB rfl), m_scan (d := d + 4) hB hl hL hb hby (fun I1 J1 t f1 f2 hf => ⟨rfl, ?_⟩)⟩
  have hT := hmt I1 J1 t hf
  refine s_M_text_4 ⟨⟨by decide, (am_kk hB rfl)⟩, ⟨by decide, (am_kk hB rfl)⟩, ⟨by decide, (am_kk hB rfl)⟩, Or.inl rfl, ⟨by decide, (am_kk hB rfl)⟩, (am_kk hB rfl), ?_⟩
  refine go _ J1 ⟨fun a j g1 g2 g3 g4 g5 g6 => ?_, fun a j g1 _ => f2 a j g1⟩ (mt_5 hT ?_ ?_) ?_ ?_ ?_ am_u_kk
  · rw [am_u_off (by omega), am_u_off (by omega), am_u_off (by omega), am_u_off (by omega)]
    exact f1 a j (by omega) g2 g3
  · rw [am_u_row (by decide), am_u_row (by decide), am_u_row (by decide), am_u_row (by decide)]
  · rw [am_u_row (by decide), am_u_row (by decide), am_u_row (by decide), am_u_row (by decide)]
  · rw [am_u_kn (by decide), am_u_kn (by decide), am_u_kn (by decide)]; exact am_u_kk
  · rw [am_u_kn (by decide), am_u_kn (by decide)]; exact am_u_kk
  · rw [am_u_kn (by decide)]; exact am_u_kk
theorem m_textBad {k : Nat} (hB : am_B C R) (hl : I 101 1 = (len : Int)) (hL : len ≤ 1200) (hb : ∀ j : Nat, j < len → I 102 j % 256 = b j) (hby : ∀ j : Nat, j < len → 0 ≤ b j ∧ b j ≤ 255) (hmt : ∀ (I' J' : Nat → Nat → Int) (t : Nat), tm_fin b I' J' len t → mt_T I' J' kd pl nu nm c) (hbd : st_bd kd pl nu nm k) (hk : k ≤ c) (post : ∀ I' J' : Nat → Nat → Int, mx_fr s I I' J J' → I' 101 1 = 0 → I' 101 2 = pl k → Q (some (.inl (-2))) (n0, C, I', J', R)) : am_WP (d + 7) (am_entry 51 [.inr (.inl 101)] (n0, C, I, J, R)) Q := by
  refine m_textS (s := s) hB hl hL hb hby hmt (fun I1 J1 f1 hT i1 i7 i8 i2 => ?_)
  refine m_set_bad hB hT i7 i8 hk hbd (fun I2 hb => ⟨rfl, ?_⟩)
  obtain ⟨g1, g2, g3, g4⟩ := hb
  refine s_M_text_28 ⟨(am_kk hB rfl), am_nm_k g3 ?_⟩
  rintro _ rfl _ _
  refine ⟨fun h => absurd h (by decide), fun _ => ⟨(am_kk hB rfl), am_nm_k g4 (fun z hz _ _ => ⟨⟨by decide, (am_kk hB rfl)⟩, ?_⟩)⟩⟩
  exact post _ J1 (mx_2 (mx_fo f1 g1)) ((am_u_kn (by decide)).trans ((g1 _ _ (by decide) (by decide)).trans i1)) (am_u_kk.trans hz)
theorem m_textOk {F G : Nat → Nat → Int} {aT W : Nat → Int} {r : Nat} {t : st0} (hB : am_B C R) (hl : I 101 1 = (len : Int)) (hL : len ≤ 1200) (hb : ∀ j : Nat, j < len → I 102 j % 256 = b j) (hby : ∀ j : Nat, j < len → 0 ≤ b j ∧ b j ≤ 255) (hmt : ∀ (I' J' : Nat → Nat → Int) (t : Nat), tm_fin b I' J' len t → mt_T I' J' kd pl nu nm c) (hsp : st_sp kd pl nu nm t) (hs : s < 2) (h14 : I 101 14 = 0 ∧ s = 1 ∨ I 101 14 ≠ 0 ∧ s = 0) (hrsc : ts_sz t.1 + 2 + t.2.1 ≤ c) (hx : xst pl nu nm F G r t) (hg : ts_rg pl nu 0 t.1) (h36 : ts_cn t.1 ≤ 36)
    (hE : tsf (lx (F (r + 9)) t.1.length) (fx (G (r + 7)) (ts_cn t.1)) pl nu nm 0 0 0 t.1 = none → arf (lx (F (r + 9)) t.1.length) pl nu (ts_sz t.1 + 1) t.2.1 = none → rE F aT W r s t.1.length (ts_cn t.1) t.2.1)
    (bad1 : ∀ k : Int, tsf (lx (F (r + 9)) t.1.length) (fx (G (r + 7)) (ts_cn t.1)) pl nu nm 0 0 0 t.1 = some k → ∀ I' J' : Nat → Nat → Int, mx_fr s I I' J J' → I' 101 1 = 0 → I' 101 2 = k → Q (some (.inl (-3))) (n0, C, I', J', R))
    (bad2 : tsf (lx (F (r + 9)) t.1.length) (fx (G (r + 7)) (ts_cn t.1)) pl nu nm 0 0 0 t.1 = none → ∀ k : Int, arf (lx (F (r + 9)) t.1.length) pl nu (ts_sz t.1 + 1) t.2.1 = some k → ∀ I' J' : Nat → Nat → Int, mx_fr s I I' J J' → I' 101 1 = 0 → I' 101 2 = k → Q (some (.inl (-3))) (n0, C, I', J', R))
    (bad3 : tsf (lx (F (r + 9)) t.1.length) (fx (G (r + 7)) (ts_cn t.1)) pl nu nm 0 0 0 t.1 = none → arf (lx (F (r + 9)) t.1.length) pl nu (ts_sz t.1 + 1) t.2.1 = none → ∀ k : Int, rsf (fx (G (r + 7)) (ts_cn t.1)) (F (r + 5)) (F (r + 6)) aT W t.2.1 t.2.2 = some k → ∀ I' J' : Nat → Nat → Int, mx_fr s I I' J J' → I' 101 1 = 0 → I' 101 2 = k → Q (some (.inl (-3))) (n0, C, I', J', R))
    (ok : tsf (lx (F (r + 9)) t.1.length) (fx (G (r + 7)) (ts_cn t.1)) pl nu nm 0 0 0 t.1 = none → arf (lx (F (r + 9)) t.1.length) pl nu (ts_sz t.1 + 1) t.2.1 = none → rsf (fx (G (r + 7)) (ts_cn t.1)) (F (r + 5)) (F (r + 6)) aT W t.2.1 t.2.2 = none → ∀ I' J' : Nat → Nat → Int, mx_fr s I I' J J' → I' 101 1 = 0 → I' 101 2 = -1 → I' 101 8 = 0 → mtab F G r s t.1.length (ts_cn t.1) t.2.1 I' J' → mr_rows (fx (G (r + 7)) (ts_cn t.1)) (nwc F r) s I' 0 t.2.2 → I' 116 s = (t.2.2.length : Int) → I' 117 s = (rs_sz t.2.2 : Int) → am_WP (d + 7) (51, 64, [.inr (.inl 101), .inl (s : Int), am_o], [], (0, 0), n0, C, I', J', R) Q) : am_WP (d + 7) (am_entry 51 [.inr (.inl 101)] (n0, C, I, J, R)) Q := by
  refine m_textS (s := s) hB hl hL hb hby hmt (fun I1 J1 f1 hT i1 i7 i8 i2 => ?_)
  refine m_set_ok hB hT i7 i8 hsp (fun I2 g1 g2 g3 g4 => ⟨rfl, ?_⟩)
  have f2 := mx_fo f1 g1
  have hT2 := mt_fo hT g1
  have e1 : I2 101 1 = 0 := (g1 _ _ (by decide) (by decide)).trans i1
  have e2 : I2 101 2 = -1 := (g1 _ _ (by decide) (by decide)).trans i2
  have e14 : I2 101 14 = I 101 14 := f2.1 _ _ (by decide) (by decide) (by decide) (by decide) (by decide) (by omega)
  -- a fault
  have fault : ∀ (k : Int) (I3 J3 : Nat → Nat → Int), mm_fin s k I2 I3 J1 J3 → (∀ I' J' : Nat → Nat → Int, mx_fr s I I' J J' → I' 101 1 = 0 → I' 101 2 = k → Q (some (.inl (-3))) (n0, C, I', J', R)) → am_WP (d + 7) (51, 64, [.inr (.inl 101), .inl (s : Int), am_o], [], (0, 0), n0, C, I3, J3, R) Q := by
    intro k I3 J3 hf post
    obtain ⟨q1, q2, q3⟩ := hf
    refine s_M_text_64 ⟨(am_kk hB rfl), am_nm_k q2 ?_⟩
    rintro _ rfl _ _
    refine ⟨fun h => absurd h (by decide), fun _ => ⟨(am_kk hB rfl), am_nm_k q3 (fun z hz _ _ => ⟨⟨by decide, (am_kk hB rfl)⟩, ?_⟩)⟩⟩
    exact post _ J3 (mx_2 (mx_mm f2 q1)) ((am_u_kn (by decide)).trans ((q1.1 _ _ (by unfold mm_ch; omega)).trans e1)) (am_u_kk.trans hz)
  have s58 : am_WP (d + 7) (51, 58, [.inr (.inl 101), am_o, am_o], [.inl (s : Int)], (0, 0), n0, C, I2, J1, R) Q := by
    refine s_M_text_58 ⟨(am_kk hB rfl), m_tc hB hs hT2 g2 hsp hrsc g4 hx hg h36 (fun a1 a2 X I3 J3 q1 q2 q3 q4 q5 q6 => ?_) (fun k hk I3 J3 hf => ⟨rfl, fault k I3 J3 hf (bad1 k hk)⟩) (fun a1 k hk I3 J3 hf => ⟨rfl, fault k I3 J3 hf (bad2 a1 k hk)⟩)⟩
    obtain ⟨-, -, -, -, -, ⟨j, s6, s7⟩, -, s9, s10⟩ := hsp
    refine m_rows (x2 := (X : Int)) hB (hE a1 a2) t.2.2 0 _ j I3 (mt_mm hT2 q1) q3 hrsc q2 q4 q5 s6 s7 (by omega) s10 (fun a3 I4 p1 p2 p3 p4 p5 p6 _ => ⟨rfl, ?_⟩) (fun k hk I4 hb => ⟨rfl, ?_⟩)
    · have q14 := mm_trans q1 p1
      refine ok a1 a2 a3 I4 J3 (mx_mm f2 q14) ((q14.1 _ _ (by unfold mm_ch; omega)).trans e1) ((q14.1 _ _ (by unfold mm_ch; omega)).trans e2) p2 p3 p6 (by rw [p4, Nat.zero_add]) ?_
      rw [p5, q6]; exact g3
    · exact fault k I4 J3 ⟨mm_trans q1 hb.1, hb.2.1, hb.2.2.1⟩ (bad3 a1 a2 k hk)
  refine s_M_text_28 ⟨(am_kk hB rfl), am_nm_k g2 ?_⟩
  rintro _ rfl _ _
  refine ⟨fun _ => ⟨(am_kk hB rfl), am_nm_k e14 (fun z hz _ _ => ⟨fun h => ?_, fun h => ?_⟩)⟩, fun h => absurd rfl h⟩
  · rcases h14 with q | q
    · exact absurd (hz.trans q.1) h
    · rw [q.2] at s58; exact s58
  · rcases h14 with q | q
    · rw [q.2] at s58; exact s58
    · exact absurd (hz.symm.trans h) q.1
def mz_fr (I I' : Nat → Nat → Int) : Prop := ∀ a j : Nat, ¬ (a = 101 ∧ (j = 14 ∨ j = 40 ∨ j = 43 ∨ j = 47 ∨ j = 50 ∨ j = 54 ∨ j = 57)) → ¬ (128 ≤ a ∧ a ≤ 137) → I' a j = I a j
theorem m_textEnd {F G : Nat → Nat → Int} {r N m wd : Nat} {ws : List rw0} {nmL : Nat → List Int} (hB : am_B C R) (h : Sx F G r s ws N m wd nmL) (hM : Md F G r s ws N m wd nmL I J) (h8 : I 101 8 = 0) (post : ∀ I' : Nat → Nat → Int, mz_fr I I' → I' 101 14 = (s : Int) → I' 101 40 = 0 → (∀ ρ : Nat, ρ < 12 → I' 129 ρ = -1) → (¬ Sem (Sa F G r m ws) ws.length (twf F r) (vdf m) (Sg (rsg ws) ws.length) (fun _ => -1) → I' 101 43 = 0) → (Sem (Sa F G r m ws) ws.length (twf F r) (vdf m) (Sg (rsg ws) ws.length) (fun _ => -1) → I' 101 43 = 1 ∧ ∃ K' : Nat → Int, Fst (Sa F G r m ws) ws.length (twf F r) (vdf m) (Sg (rsg ws) ws.length) 60 (fun _ => -1) K' ∧ ml (ext (wtx K' F (F (r + 8)) r nmL 6) (F (r + 26)) wd 0) I') → Q (some (.inl (ws.length : Int))) (n0, C, I', J, R)) : am_WP (d + 7) (51, 64, [.inr (.inl 101), .inl (s : Int), am_o], [], (0, 0), n0, C, I, J, R) Q := by
  have s2 := h.2.1.1
  have loop : ∀ (u x : Nat) (I1 : Nat → Nat → Int), x + u = 12 → mz_fr I I1 → I1 101 14 = (s : Int) → I1 101 40 = 0 → (∀ ρ : Nat, ρ < x → I1 129 ρ = -1) → am_WP (d + 7) (51, 94, [.inr (.inl 101), .inl (s : Int), .inl (x : Int)], [], (0, 0), n0, C, I1, J, R) Q := by
    intro u
    induction u with
    | zero =>
      intro x I1 hx hf h14 h40 h129
      have hM1 : Md F G r s ws N m wd nmL I1 J := Md_fr (fun a j a1 a2 => hf a j (by omega) (by omega)) rfl hM
      refine s_M_text_94 ⟨fun _ => ⟨(am_kk hB rfl), m_findExample (d := d + 2) hB h hM1 h14 (fun I2 f2 q1 q2 => ⟨rfl, s_M_text_117 ⟨(am_kk hB rfl), 116, (am_rf hB rfl), _, (am_kk hB rfl), ⟨by omega, by omega⟩, am_nm_k ((f2 _ _ (by omega) (by omega) (by omega)).trans hM1.2.2.1) ?_⟩⟩)⟩, fun h => absurd h (by omega)⟩
      rintro _ rfl _ _
      exact post I2 (fun a j g1 g2 => (f2 a j (by omega) (by omega) (by omega)).trans (hf a j g1 g2)) ((f2 _ _ (by decide) (by decide) (by decide)).trans h14) ((f2 _ _ (by decide) (by decide) (by decide)).trans h40) (fun ρ hρ => (f2 _ _ (by omega) (by omega) (by omega)).trans (h129 ρ (by omega))) q1 q2
    | succ u ih =>
      intro x I1 hx hf h14 h40 h129
      refine s_M_text_94 ⟨fun h => absurd h (by omega), fun _ => ⟨(am_kk hB rfl), 129, (am_rf hB rfl), _, by decide, (am_kk hB rfl), ⟨by omega, by omega⟩, am_ar_i (by omega) (by omega) (ih (x + 1) _ (by omega) (fun a j g1 g2 => (am_u_ne (by omega)).trans (hf a j g1 g2)) ((am_u_ne (by decide)).trans h14) ((am_u_ne (by decide)).trans h40) (fun ρ hρ => ?_))⟩⟩
      show am_u I1 129 x (-1) 129 ρ = -1
      rw [am_u_at]
      by_cases e : ρ = x
      · rw [if_pos e]
      · rw [if_neg e]; exact h129 ρ (by omega)
  refine s_M_text_64 ⟨(am_kk hB rfl), am_nm_k h8 ?_⟩
  rintro _ rfl _ _
  refine ⟨fun _ => ⟨⟨by decide, (am_kk hB rfl)⟩, ⟨by decide, (am_kk hB rfl)⟩, loop 12 0 _ (by omega) (fun a j g1 g2 => ?_) ((am_u_kn (by decide)).trans am_u_kk) am_u_kk (fun ρ hρ => absurd hρ (Nat.not_lt_zero ρ))⟩, fun h => absurd rfl h⟩
  rw [am_u_off (by omega), am_u_off (by omega)]
end MTX
