/-! MEANING: the reference's columns -/
/-- the reference's tables, against the class's -/
def mtab (F G : Nat → Nat → Int) (r s N m wd : Nat) (I J : Nat → Nat → Int) : Prop := I 108 s = (N : Int) ∧ I 109 s = (m : Int) ∧ I 114 s = (wd : Int) ∧ (∀ z : Nat, z < wd → I 115 (4 * s + z) = F (r + 27) z) ∧ (∀ l : Nat, l < 26 → I 107 (26 * s + l) = kx (F (r + 9)) (F (r + 2)) N (l : Int)) ∧ mc_ok F G r s m I J
section MQ
variable {d n : Nat} {K : Nat → am_K} {R : Nat → Nat → Option Nat} {Q : am_Q} {kd pl nu nm : Nat → Int} {c s : Nat} {N m : Nat} {F G : Nat → Nat → Int} {r : Nat}
theorem m_cols {p w : Nat} {x2 : Int} {I0 J : Nat → Nat → Int} (hB : am_B K R) (hs : s < 2) (hT : mt_T I0 J kd pl nu nm c) (hw : co_sp kd p w) (hpc : p + 2 + w ≤ c) (hn : ∀ T : Nat, T < N → F (r + 2) T = 0 ∨ F (r + 2) T = 1) (hF : ∀ z : Nat, z < w → F (r + 27) z = nu (p + 1 + z)) (h8 : I0 101 8 = 0) (hL : ∀ l : Nat, l < 26 → I0 107 (26 * s + l) = kx (F (r + 9)) (F (r + 2)) N (l : Int))
    (ok : arf (lx (F (r + 9)) N) pl nu (p + 1) w = none → ∀ I' : Nat → Nat → Int, (∀ a j : Nat, ¬ (a = 101 ∧ j = 7) → ¬ (a = 114 ∧ j = s) → ¬ (a = 115 ∧ 4 * s ≤ j ∧ j < 4 * s + 4) → I' a j = I0 a j) → I' 101 7 = ((p + 2 + w : Nat) : Int) → I' 114 s = (w : Int) → (∀ z : Nat, z < w → I' 115 (4 * s + z) = F (r + 27) z) → am_WP (d + 6) (39, 391, [.inr (.inl 101), .inl (s : Int), .inl x2, am_o], [], (0, 0), n, K, I', J, R) Q)
    (bad : ∀ k : Int, arf (lx (F (r + 9)) N) pl nu (p + 1) w = some k → ∀ I' J' : Nat → Nat → Int, mm_fin s k I0 I' J J' → Q none (n, K, I', J', R)) : ∀ (u z : Nat) (I : Nat → Nat → Int), z + u = w → (∀ a j : Nat, ¬ (a = 101 ∧ j = 7) → ¬ (a = 114 ∧ j = s) → ¬ (a = 115 ∧ 4 * s ≤ j ∧ j < 4 * s + 4) → I a j = I0 a j) → I 101 7 = ((p + 1 + z : Nat) : Int) → I 114 s = (z : Int) → (∀ y : Nat, y < z → I 115 (4 * s + y) = F (r + 27) y) → arf (lx (F (r + 9)) N) pl nu (p + 1) w = arf (lx (F (r + 9)) N) pl nu (p + 1 + z) u → am_WP (d + 6) (39, 322, [.inr (.inl 101), .inl (s : Int), .inl x2, am_o], [], (0, 0), n, K, I, J, R) Q := by
  obtain ⟨w0, w4, w2, w59⟩ := hw
  have h12 := hT.2.1
  have ixs : (0 : Int) ≤ (s : Int) ∧ (s : Int) < ((2 : Nat) : Int) := ⟨by omega, by omega⟩
  have frm : ∀ I : Nat → Nat → Int, (∀ a j : Nat, ¬ (a = 101 ∧ j = 7) → ¬ (a = 114 ∧ j = s) → ¬ (a = 115 ∧ 4 * s ≤ j ∧ j < 4 * s + 4) → I a j = I0 a j) → mm_fr s I0 I J J := by
    intro I hf
    refine ⟨fun a j h => hf a j (fun e => h ?_) (fun e => h ?_) (fun e => h ?_), fun _ _ _ => rfl⟩
    · rw [e.1, e.2]; exact mm_101 (Or.inl rfl)
    · rw [e.1, e.2]; exact mm_tb ⟨by decide, by decide⟩ (by show 1 * s ≤ s; omega) (by show s < 1 * s + 1; omega)
    · rw [e.1]; exact mm_tb ⟨by decide, by decide⟩ (by show 4 * s ≤ j; omega) (by show j < 4 * s + 4; omega)
  intro u
  induction u with
  | zero =>
    intro z I hu hf h7 h114 h115 he
    have ez : z = w := by omega
    subst ez
    have hT1 := mt_mm hT (frm I hf)
    refine s_M_meaningOfSet_322 ⟨(am_kk hB rfl), am_nm_k ((hf 101 8 (by omega) (by omega) (by omega)).trans h8) ?_⟩
    rintro _ rfl _ _
    refine ⟨fun h => absurd rfl h, fun _ => ⟨(am_kk hB rfl), m_isSign (by unfold tb_sg; decide) hB hT1 h7 (by omega) (fun _ => ⟨_, rfl, s_M_meaningOfSet_335 ⟨fun _ => s_M_meaningOfSet_381 ⟨(am_kk hB rfl), am_nm_k h7 ?_⟩, fun h => absurd h (by decide)⟩⟩) (fun h => absurd w59 h)⟩⟩
    rintro _ rfl _ _
    refine am_ar_i (by omega) (by omega) ⟨⟨by decide, (am_kk hB rfl)⟩, ok he _ (fun a j a1 a2 a3 => (am_u_off a1).trans (hf a j a1 a2 a3)) ?_ ((am_u_ne (by decide)).trans h114) (fun y hy => (am_u_ne (by decide)).trans (h115 y hy))⟩
    rw [am_u_kk]; omega
  | succ u ih =>
    intro z I hu hf h7 h114 h115 he
    have hT1 := mt_mm hT (frm I hf)
    have kz := w2 z (by omega)
    have n59 : kd (p + 1 + z) ≠ 59 := by rw [kz]; decide
    refine s_M_meaningOfSet_322 ⟨(am_kk hB rfl), am_nm_k ((hf 101 8 (by omega) (by omega) (by omega)).trans h8) ?_⟩
    rintro _ rfl _ _
    refine ⟨fun h => absurd rfl h, fun _ => ⟨(am_kk hB rfl), m_isSign (by unfold tb_sg; decide) hB hT1 h7 (by omega) (fun h => absurd h n59) (fun _ => ⟨_, rfl, s_M_meaningOfSet_335 ⟨fun h => absurd rfl h, fun _ => ⟨(am_kk hB rfl), 115, (am_rf hB rfl), am_ar_i (by omega) (by omega) ⟨(am_kk hB rfl), 114, (am_rf hB rfl), _, (am_kk hB rfl), ixs, am_nm_k h114 ?_⟩⟩⟩⟩)⟩⟩
    rintro _ rfl _ _
    refine am_ar_i (by omega) (by omega) ⟨(am_kk hB rfl), 105, (am_rf hB rfl), (am_kk hB rfl), am_nm_k h7 ?_⟩
    rw [show (4 : Int) * (s : Int) + (z : Int) = ((4 * s + z : Nat) : Int) by omega]
    rintro _ rfl _ _
    refine m_let hB hT1 (by omega) kz ⟨_, by decide, (am_kk hB rfl), ⟨by omega, by omega⟩, (am_kk hB rfl), 114, (am_rf hB rfl), _, (am_kk hB rfl), ixs, am_nm_k (show am_u I 115 (4 * s + z) (nu (p + 1 + z)) 114 s = (z : Int) from (am_u_ne (by decide)).trans h114) ?_⟩
    rintro _ rfl _ _
    refine am_ar_i (by omega) (by omega) ⟨_, by decide, (am_kk hB rfl), ixs, (am_kk hB rfl), ?_⟩
    show am_WP (d + 5) (am_entry 40 [.inr (.inl 101), .inl (s : Int)] (n, K, am_u (am_u I 115 (4 * s + z) (nu (p + 1 + z))) 114 s ((z : Int) + 1), J, R)) _
    have f2 : ∀ a j : Nat, ¬ (a = 101 ∧ j = 7) → ¬ (a = 114 ∧ j = s) → ¬ (a = 115 ∧ 4 * s ≤ j ∧ j < 4 * s + 4) → am_u (am_u I 115 (4 * s + z) (nu (p + 1 + z))) 114 s ((z : Int) + 1) a j = I0 a j := by
      intro a j a1 a2 a3
      rw [am_u_off (by omega), am_u_off (by omega), hf a j a1 a2 a3]
    have p1 : am_u (am_u I 115 (4 * s + z) (nu (p + 1 + z))) 114 s ((z : Int) + 1) 101 7 = ((p + 1 + z : Nat) : Int) := by rw [am_u_ne (by decide), am_u_ne (by decide), h7]
    have p2 : am_u (am_u I 115 (4 * s + z) (nu (p + 1 + z))) 114 s ((z : Int) + 1) 114 s = ((z + 1 : Nat) : Int) := am_u_kk
    have p3 : ∀ y : Nat, y < z + 1 → am_u (am_u I 115 (4 * s + z) (nu (p + 1 + z))) 114 s ((z : Int) + 1) 115 (4 * s + y) = F (r + 27) y := by
      intro y hy
      rw [am_u_ne (by decide)]
      by_cases e : y = z
      · subst e; rw [am_u_kk, hF y (by omega)]
      · rw [am_u_kn (by omega)]; exact h115 y (by omega)
    generalize am_u (am_u I 115 (4 * s + z) (nu (p + 1 + z))) 114 s ((z : Int) + 1) = I2 at f2 p1 p2 p3 ⊢
    have ea : arf (lx (F (r + 9)) N) pl nu (p + 1 + z) (u + 1) = (if lx (F (r + 9)) N (nu (p + 1 + z)) = -1 then some (pl (p + 1 + z)) else arf (lx (F (r + 9)) N) pl nu (p + 1 + z + 1) u) := rfl
    refine m_mtype (g := F (r + 9)) (nw := F (r + 2)) (N := N) hB hs (mt_mm hT (frm I2 f2)) p1 (by omega) ((f2 101 8 (by omega) (by omega) (by omega)).trans h8) kz (fun l hl => (f2 _ _ (by omega) (by omega) (by omega)).trans (hL l hl)) hn (fun hne => ⟨rfl, s_M_meaningOfSet_378 ?_⟩) (fun heq I3 hb => ⟨rfl, s_M_meaningOfSet_378 (md_381 hB (mm_bt (frm I2 f2) hb) (fun I' J' hb' => bad _ (he.trans (ea.trans (if_pos heq))) I' J' hb'))⟩)
    rw [if_neg hne] at ea
    exact ih (z + 1) _ (by omega) (fun a j a1 a2 a3 => (am_u_off (by omega)).trans (f2 a j a1 a2 a3)) am_u_kk ((am_u_ne (by decide)).trans p2) (fun y hy => (am_u_ne (by decide)).trans (p3 y hy)) (he.trans ea)
/-- types and columns -/
theorem m_tc {t : st0} {I J : Nat → Nat → Int} (hB : am_B K R) (hs : s < 2) (hT : mt_T I J kd pl nu nm c) (h8 : I 101 8 = 0) (hsp : st_sp kd pl nu nm t) (hrsc : ts_sz t.1 + 2 + t.2.1 ≤ c) (h11 : I 101 11 = ((ts_sz t.1 + 2 + t.2.1 : Nat) : Int)) (hx : xst pl nu nm F G r t) (hg : ts_rg pl nu 0 t.1) (h36 : ts_cn t.1 ≤ 36)
    (ok : tsf (lx (F (r + 9)) t.1.length) (fx (G (r + 7)) (ts_cn t.1)) pl nu nm 0 0 0 t.1 = none → arf (lx (F (r + 9)) t.1.length) pl nu (ts_sz t.1 + 1) t.2.1 = none → ∀ (X : Nat) (I' J' : Nat → Nat → Int), mm_fr s I I' J J' → I' 101 8 = 0 → I' 101 7 = ((ts_sz t.1 + 2 + t.2.1 : Nat) : Int) → mtab F G r s t.1.length (ts_cn t.1) t.2.1 I' J' → I' 116 s = 0 → I' 117 s = I 101 10 → am_WP (d + 6) (39, 391, [.inr (.inl 101), .inl (s : Int), .inl (X : Int), am_o], [], (0, 0), n, K, I', J', R) Q)
    (bad1 : ∀ k : Int, tsf (lx (F (r + 9)) t.1.length) (fx (G (r + 7)) (ts_cn t.1)) pl nu nm 0 0 0 t.1 = some k → ∀ I' J' : Nat → Nat → Int, mm_fin s k I I' J J' → Q none (n, K, I', J', R))
    (bad2 : tsf (lx (F (r + 9)) t.1.length) (fx (G (r + 7)) (ts_cn t.1)) pl nu nm 0 0 0 t.1 = none → ∀ k : Int, arf (lx (F (r + 9)) t.1.length) pl nu (ts_sz t.1 + 1) t.2.1 = some k → ∀ I' J' : Nat → Nat → Int, mm_fin s k I I' J J' → Q none (n, K, I', J', R)) : am_WP (d + 6) (am_entry 39 [.inr (.inl 101), .inl (s : Int)] (n, K, I, J, R)) Q := by
  obtain ⟨s1, s2, s3, s4, s5, s6, s7, s8, s9⟩ := hsp
  obtain ⟨x1, x2, x3, x4, x5, x6, x7, x8, x9⟩ := hx
  have h12 := hT.2.1
  have xn : ∀ (ts : List ty) (T C p : Nat), xs_types F G r pl nu nm T C p ts → ∀ T' : Nat, T ≤ T' → T' < T + ts.length → F (r + 2) T' = 0 ∨ F (r + 2) T' = 1 := by
    intro ts
    induction ts with
    | nil => intro T C p _ T' h1 h2; exact absurd h2 (by show ¬ (T' < T + 0); omega)
    | cons t ts ih =>
      intro T C p h T' h1 h2
      have h2 : T' < T + (ts.length + 1) := h2
      by_cases e : T' = T
      · rw [e, h.2.2.1]
        cases t.1
        · exact Or.inl rfl
        · exact Or.inr rfl
      · exact ih (T + 1) _ _ h.2.2.2.2.2.2 T' (by omega) (by omega)
  have hn : ∀ T : Nat, T < t.1.length → F (r + 2) T = 0 ∨ F (r + 2) T = 1 := fun T hT' => xn t.1 0 0 0 x3 T (Nat.zero_le _) (by omega)
  -- the kinds of letters are told by types alone
  have kxc : ∀ (k : Nat) (l : Int), k ≤ t.1.length → kx (F (r + 9)) (fun T => if T < t.1.length then F (r + 2) T else 0) k l = kx (F (r + 9)) (F (r + 2)) k l := by
    intro k l hk
    unfold kx
    rcases fx_cases (F (r + 9)) l k with ⟨h, -⟩ | ⟨c', hc', h, -, -⟩
    · rw [h]; simp
    · rw [h, Int.toNat_natCast]
      simp only [show c' < t.1.length by omega, if_true]
  refine mi_init (g := F (r + 9)) (nw := fun T => if T < t.1.length then F (r + 2) T else 0) hB hs (fun I1 f1 a101 L1 a108 a109 a114 a116 a117 => ?_)
  have T1 := mt_mm hT f1
  refine mi_types (F := F) (G := G) (r := r) (g := F (r + 9)) (nw := fun T => if T < t.1.length then F (r + 2) T else 0) hB hs hrsc (fun T => ?_) t.1 0 0 0 (ts_sz t.1) I1 T1 ((a101 11).trans h11) s1 (by omega) x3 (fun _ => rfl) (fun T' _ h => by show (if T' < t.1.length then F (r + 2) T' else 0) = _; rw [if_pos (by omega)]) L1 (fun I2 f2 L2 => ?_)
  · show (if T < t.1.length then F (r + 2) T else 0) = 0 ∨ (if T < t.1.length then F (r + 2) T else 0) = 1
    by_cases e : T < t.1.length
    · rw [if_pos e]; exact hn T e
    · rw [if_neg e]; exact Or.inl rfl
  have f12 : mm_fr s I I2 J J := mm_trans f1 ⟨fun a j h => f2 a j (fun e => h (by rw [e.1]; exact mm_tb ⟨by decide, by decide⟩ e.2.1 e.2.2)), fun _ _ _ => rfl⟩
  have T2 := mt_mm hT f12
  have L2' : ∀ l : Nat, l < 26 → I2 107 (26 * s + l) = kx (F (r + 9)) (F (r + 2)) t.1.length (l : Int) := by
    intro l hl
    rw [L2 l hl, Nat.zero_add]
    exact kxc _ _ (Nat.le_refl _)
  have b11 : I2 101 11 = ((ts_sz t.1 + 2 + t.2.1 : Nat) : Int) := (f2 _ _ (by omega)).trans ((a101 11).trans h11)
  refine mi_skip hB hs T2 b11 hrsc (t.2.1 + 1) (ts_sz t.1) (by omega) (fun x h1 h2 => ?_) ?_
  · by_cases e : x = ts_sz t.1
    · rw [e, s2]; decide
    · have := s5.2.2.1 (x - (ts_sz t.1 + 1)) (by omega)
      rw [show ts_sz t.1 + 1 + (x - (ts_sz t.1 + 1)) = x by omega] at this
      rw [this]; decide
  refine s_M_meaningOfSet_76 (am_ar_i (by omega) (by omega) ⟨(am_kk hB rfl), am_nm_k b11 ?_⟩)
  rintro _ rfl _ _
  refine ⟨fun _ => ⟨⟨by decide, (am_kk hB rfl)⟩, ?_⟩, fun h => absurd h (by omega)⟩
  have f3 : mm_fr s I (am_u I2 101 7 0) J J := mm_ut f12 (mm_101 (Or.inl rfl))
  refine m_tys (g := F (r + 9)) (nw := F (r + 2)) (N := t.1.length) (m := ts_cn t.1) (F := F) (G := G) (r := r) hB hs h36 s3 hn (fun _ => rfl) t.1 0 0 0 (ts_sz t.1) 0 (am_u I2 101 7 0) J (mt_mm hT f3) am_u_kk ((am_u_kn (by decide)).trans ((f2 _ _ (by omega)).trans ((a101 8).trans h8))) s1 s2 (by omega) h12 x3 hg (by omega) (by omega) (by decide) (fun l _ => ?_) ((am_u_ne (by decide)).trans ((f2 _ _ (by omega)).trans a108)) ((am_u_ne (by decide)).trans ((f2 _ _ (by omega)).trans a109)) (fun c' hc' => absurd hc' (Nat.not_lt_zero c')) (fun l hl => (am_u_ne (by decide)).trans (L2' l hl)) (fun e1 X I3 J3 p1 p2 p3 p4 p5 p6 p7 p8 p9 p10 => ?_) (fun k e1 I' J' hb => bad1 k e1 I' J' (mm_ft f3 hb))
  · constructor
    · intro h; exact absurd h (by simp)
    · rintro ⟨j, hj, -⟩; exact absurd hj (Nat.not_lt_zero j)
  have f4 := mm_trans f3 p1
  have T3 := mt_mm hT f4
  refine s_M_meaningOfSet_209 ⟨(am_kk hB rfl), am_nm_k p2 ?_⟩
  rintro _ rfl _ _
  refine ⟨fun h => absurd rfl h, fun _ => ⟨(am_kk hB rfl), m_isWord (Or.inr (Or.inr (Or.inl ⟨rfl, rfl⟩))) hB T3 p3 (by omega) (fun _ => ⟨_, rfl, s_M_meaningOfSet_223 ⟨fun _ => s_M_meaningOfSet_301 ⟨(am_kk hB rfl), am_nm_k p3 ?_⟩, fun h => absurd h (by decide)⟩⟩) (fun h => absurd s2 h)⟩⟩
  rintro _ rfl _ _
  refine ⟨(am_kk hB rfl), am_nm_k p2 ?_⟩
  rintro _ rfl _ _
  refine ⟨fun _ => s_M_meaningOfSet_318 (am_ar_i (by omega) (by omega) ⟨⟨by decide, (am_kk hB rfl)⟩, ?_⟩), fun h => absurd rfl h⟩
  have f5 : mm_fr s I (am_u I3 101 7 ((ts_sz t.1 : Int) + 1)) J J3 := mm_ut f4 (mm_101 (Or.inl rfl))
  have ot : ∀ a j : Nat, a ≠ 101 → am_u I3 101 7 ((ts_sz t.1 : Int) + 1) a j = I3 a j := fun a j h => am_u_ne h
  have k107 : ∀ l : Nat, l < 26 → am_u I3 101 7 ((ts_sz t.1 : Int) + 1) 107 (26 * s + l) = kx (F (r + 9)) (F (r + 2)) t.1.length (l : Int) := fun l hl => (ot _ _ (by decide)).trans ((p7 _).trans ((am_u_ne (by decide)).trans (L2' l hl)))
  refine m_cols (N := t.1.length) (F := F) (r := r) (p := ts_sz t.1) (w := t.2.1) hB hs (mt_mm hT f5) s5 hrsc hn (fun z hz => (x5 z hz).1) ((am_u_kn (by decide)).trans p2) k107 (fun e2 I4 f6 q1 q2 q3 => ?_) (fun k e2 I' J' hb => bad2 e1 k e2 I' J' (mm_ft f5 hb)) t.2.1 0 (am_u I3 101 7 ((ts_sz t.1 : Int) + 1)) (by omega) (fun _ _ _ _ _ => rfl) am_u_kk ((ot _ _ (by decide)).trans (p8.trans ((am_u_ne (by decide)).trans ((f2 _ _ (by omega)).trans a114)))) (fun y hy => absurd hy (Nat.not_lt_zero y)) rfl
  have f7 : mm_fr s (am_u I3 101 7 ((ts_sz t.1 : Int) + 1)) I4 J3 J3 := by
    refine ⟨fun a j h => f6 a j (fun e => h ?_) (fun e => h ?_) (fun e => h ?_), fun _ _ _ => rfl⟩
    · rw [e.1, e.2]; exact mm_101 (Or.inl rfl)
    · rw [e.1, e.2]; exact mm_tb ⟨by decide, by decide⟩ (by show 1 * s ≤ s; omega) (by show s < 1 * s + 1; omega)
    · rw [e.1]; exact mm_tb ⟨by decide, by decide⟩ (by show 4 * s ≤ j; omega) (by show j < 4 * s + 4; omega)
  have o6 : ∀ a j : Nat, a ≠ 101 → a ≠ 114 → a ≠ 115 → I4 a j = I3 a j := fun a j a1 a2 a3 => (f6 a j (by omega) (by omega) (by omega)).trans (ot a j a1)
  refine ok e1 e2 X I4 J3 (mm_trans f5 f7) ((f6 _ _ (by omega) (by omega) (by omega)).trans ((am_u_kn (by decide)).trans p2)) q1 ⟨(o6 _ _ (by decide) (by decide) (by decide)).trans p4, (o6 _ _ (by decide) (by decide) (by decide)).trans p5, q2, q3, fun l hl => (f6 _ _ (by omega) (by omega) (by omega)).trans (k107 l hl), fun c' hc' => ?_⟩ ?_ ?_
  · obtain ⟨o1, o2, o3, o4⟩ := p6 c' hc'
    exact ⟨(o6 _ _ (by decide) (by decide) (by decide)).trans o1, (o6 _ _ (by decide) (by decide) (by decide)).trans o2, fun z z3 hz => (o6 _ _ (by decide) (by decide) (by decide)).trans (o3 z z3 hz), o4⟩
  · rw [o6 _ _ (by decide) (by decide) (by decide), p9, am_u_ne (by decide), f2 _ _ (by omega), a116]
  · rw [o6 _ _ (by decide) (by decide) (by decide), p10, am_u_ne (by decide), f2 _ _ (by omega), a117]
end MQ
