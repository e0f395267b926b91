/-! MEANING: the reference's rows, constructors -/
theorem fx_rel {h h' : Nat → Int} {x x' : Int} : ∀ m : Nat, (∀ c : Nat, c < m → (h c = x ↔ h' c = x')) → fx h m x = fx h' m x' := by
  intro m
  induction m with
  | zero => intro _; rfl
  | succ m ih =>
    intro hh
    have e := ih (fun c hc => hh c (by omega))
    have e2 := hh m (by omega)
    show (if fx h m x ≠ -1 then fx h m x else if h m = x then (m : Int) else -1) = (if fx h' m x' ≠ -1 then fx h' m x' else if h' m = x' then (m : Int) else -1)
    rw [e]
    by_cases q : h m = x
    · rw [if_pos q, if_pos (e2.mp q)]
    · rw [if_neg q, if_neg (fun q' => q (e2.mpr q'))]
def acS (I : Nat → Nat → Int) (R0 : Nat) (A : List (Nat × Int)) : Prop := I 119 R0 = (A.length : Int) ∧ lsa I R0 0 A
theorem acS_fr {I I' : Nat → Nat → Int} {R0 : Nat} {A : List (Nat × Int)} (h : acS I R0 A) (hf : ∀ a j : Nat, 119 ≤ a → a ≤ 121 → I' a j = I a j) : acS I' R0 A := ⟨(hf _ _ (by decide) (by decide)).trans h.1, lsa_fr A 0 h.2 (fun a j h1 _ _ => hf a j (by omega) (by omega))⟩
def lzS (lz0 lz : Bool) (f : Nat) (I : Nat → Nat → Int) : Prop := I 101 36 = xt_v lz ∧ (lz0 = true → lz = true ∧ I 101 37 < (f : Int)) ∧ (lz0 = false → lz = true → I 101 37 = (f : Int))
def lzL (lz : Bool) (f : Nat) (I : Nat → Nat → Int) : Prop := I 101 36 = xt_v lz ∧ (lz = true → I 101 37 < (f : Int))
def rbad (R0 f : Nat) (k : Int) (I I' : Nat → Nat → Int) : Prop := rf_fr R0 f I I' ∧ I' 101 8 = 1 ∧ I' 101 9 = k ∧ 0 ≤ I' 101 7 ∧ I' 101 7 ≤ 1300
theorem rbad_t {R0 f f' : Nat} {k : Int} {I I1 I2 : Nat → Nat → Int} (h : rf_fr R0 f I I1) (h' : rbad R0 f' k I1 I2) (hf : f ≤ f') : rbad R0 f k I I2 := ⟨rf_trans h h'.1 hf, h'.2⟩
theorem rS_fr {F : Nat → Nat → Int} {aT W : Nat → Int} {r m wd f cnt col many base : Nat} {V : Nat → Int} {I I' : Nat → Nat → Int} (h : rS F aT W r m wd f cnt col V many base I) (h33 : I' 101 33 = I 101 33) (hf : ∀ a j : Nat, 122 ≤ a → a ≤ 124 → j < f → I' a j = I a j) : rS F aT W r m wd f cnt col V many base I' := by
  obtain ⟨h1, h2⟩ := h
  refine ⟨h33.trans h1, ?_⟩
  rcases h2 with h2 | ⟨f', c', P, g1, g2, g3, g4, g5, g6⟩
  · exact Or.inl h2
  · exact Or.inr ⟨f', c', P, g1, g2, (hf _ _ (by decide) (by decide) (by omega)).trans g3, (hf _ _ (by decide) (by decide) (by omega)).trans g4, (hf _ _ (by decide) (by decide) (by omega)).trans g5, g6⟩
section MN
variable {d n : Nat} {K : Nat → am_K} {J : Nat → Nat → Int} {R : Nat → Nat → Option Nat} {Q : am_Q} {kd pl nu nm : Nat → Int} {c s ρ : Nat} {N m wd : Nat} {F G : Nat → Nat → Int} {aT W : Nat → Int} {r : Nat} {I : Nat → Nat → Int}
theorem m_conHere {i : Nat} {l w : Int} (hB : am_B K R) (hE : rE F aT W r s N m wd) (ht : mtab F G r s N m wd I J) (hT : mt_T I J kd pl nu nm c) (hi : I 101 7 = (i : Int)) (hc : i ≤ c) (h8 : I 101 8 = 0) (hk : kd i = 3) (hl : I 101 34 = l) (hw : wt F r N l w)
    (ok : ∀ c' : Nat, c' < m → fx (G (r + 7)) m (nm i) = (c' : Int) → F (r + 5) c' = w → Q (some (.inl (c' : Int))) (n, K, I, J, R)) (bad : fx (G (r + 7)) m (nm i) = -1 ∨ F (r + 5) (fx (G (r + 7)) m (nm i)).toNat ≠ w → ∀ z : Int, Q (some (.inl z)) (n, K, am_u (am_u I 101 8 1) 101 9 (pl i), J, R)) : am_WP (d + 2) (am_entry 47 [.inr (.inl 101), .inl (s : Int)] (n, K, I, J, R)) Q := by
  have hE0 := hE
  obtain ⟨hs, hN, hm, hwd, eT, eC, eW⟩ := hE
  obtain ⟨t1, t2, t3, t4, t5, t6⟩ := ht
  have h12 := hT.2.1
  have hwd := tr_wrd (hT.1 i hc).2 hk
  have ef : fx (fun c => J 110 (36 * s + c)) m (J 105 i) = fx (G (r + 7)) m (nm i) := fx_rel m (fun c' hc' => (tk_w_iff (t6 c' hc').2.2.2 hwd).symm)
  refine e_M_conHere ⟨(am_kk hB rfl), 105, (am_rf hB rfl), (am_kk hB rfl), am_nm_k hi ?_⟩
  rintro _ rfl _ _
  refine ⟨_, by decide, (am_kk hB rfl), ⟨by omega, by omega⟩, fun z3 hz3 _ _ => ⟨(am_kk hB rfl), m_findCon (m := m) hB hs t2 hm ⟨_, rfl, ?_⟩⟩⟩
  have hz3 : z3 = J 105 i := hz3
  subst hz3
  rw [ef]
  rcases fx_cases (G (r + 7)) (nm i) m with ⟨x1, -⟩ | ⟨c', hc', x1, -, -⟩
  · rw [x1]
    exact s_M_conHere_14 ⟨fun _ => ⟨(am_kk hB rfl), m_mispl hB hT hi hc h8 ⟨rfl, s_M_conHere_41 (bad (Or.inl x1) (-1))⟩⟩, fun h => absurd h (by decide)⟩
  · rw [x1]
    obtain ⟨⟨T, hT', hcT, -⟩, -⟩ := eC c' hc'
    have m1 := (t6 c' hc').1
    rw [hcT, Int.toNat_natCast] at m1
    refine s_M_conHere_14 ⟨fun h => absurd h (by omega), fun _ => ⟨(am_kk hB rfl), 111, (am_rf hB rfl), am_ar_i (by omega) (by omega) (am_ar_i (by omega) (by omega) ?_)⟩⟩
    rw [show (36 : Int) * (s : Int) + (c' : Int) = ((36 * s + c' : Nat) : Int) by omega]
    refine ⟨_, (am_kk hB rfl), ⟨by omega, by omega⟩, am_nm_k m1 ?_⟩
    rintro _ rfl _ _
    refine ⟨(am_kk hB rfl), am_nm_k hl ?_⟩
    rintro _ rfl _ _
    refine ⟨fun h => s_M_conHere_41 (ok c' hc' x1 (by rw [hcT]; exact (wt_con hE0 hw hT').mp h)), fun h => ⟨(am_kk hB rfl), m_mispl hB hT hi hc h8 ⟨rfl, s_M_conHere_41 (bad (Or.inr ?_) _)⟩⟩⟩
    rw [x1, Int.toNat_natCast, hcT]
    exact fun q => h ((wt_con hE0 hw hT').mpr q)
theorem m_askFor {c' p : Nat} {l w : Int} {lz : Bool} {A : List (Nat × Int)} (hB : am_B K R) (hE : rE F aT W r s N m wd) (hρ : ρ < 12) (ht : mtab F G r s N m wd I J) (hc' : c' < m) (hcw : F (r + 5) c' = w) (hl : I 101 34 = l) (hw : wt F r N l w) (hp : I 101 35 = (p : Int)) (hlz : I 101 36 = xt_v lz) (hA : acS I (12 * s + ρ) A) (hA2 : A.length < 150)
    (post : ∀ I' : Nat → Nat → Int, (∀ a j : Nat, ¬ (a = 119 ∧ j = 12 * s + ρ) → ¬ ((a = 120 ∨ a = 121) ∧ j = 150 * (12 * s + ρ) + A.length) → I' a j = I a j) → acS I' (12 * s + ρ) (A ++ (if lz = true ∨ nwc F r (c' : Int) = true then [] else [(p, (c' : Int))])) → Q none (n, K, I', J, R)) : am_WP (d + 1) (am_entry 48 [.inr (.inl 101), .inl (s : Int), .inl (ρ : Int), .inl (c' : Int)] (n, K, I, J, R)) Q := by
  have hE0 := hE
  obtain ⟨hs, hN, hm, hwd, eT, eC, eW⟩ := hE
  obtain ⟨t1, t2, t3, t4, t5, t6⟩ := ht
  obtain ⟨⟨T, hT', hcT, -⟩, -⟩ := eC c' hc'
  obtain ⟨l2, hl2⟩ : ∃ l2 : Nat, l = (l2 : Int) := ⟨l.toNat, by have := hw.1; omega⟩
  have l25 := hw.2.1
  have gl : F (r + 9) T = l := (wt_con hE0 hw hT').mpr (by rw [← hcw, hcT])
  have hnwc : nwc F r (c' : Int) = decide (F (r + 2) T = 1) := by
    unfold nwc; rw [Int.toNat_natCast, hcT, Int.toNat_natCast]
  refine e_M_askFor ⟨(am_kk hB rfl), am_nm_k hlz ?_⟩
  rintro _ rfl _ _
  cases lz with
  | true =>
    refine ⟨fun _ => s_M_askFor_36 (post I (fun _ _ _ _ => rfl) ?_), fun h => absurd h (by decide)⟩
    rw [if_pos (Or.inl rfl), List.append_nil]; exact hA
  | false =>
    refine ⟨fun h => absurd rfl h, fun _ => ⟨(am_kk hB rfl), 107, (am_rf hB rfl), am_ar_i (by omega) (by omega) ⟨(am_kk hB rfl), am_nm_k (hl.trans hl2) ?_⟩⟩⟩
    rintro _ rfl _ _
    refine am_ar_i (by omega) (by omega) ?_
    rw [show (26 : Int) * (s : Int) + (l2 : Int) = ((26 * s + l2 : Nat) : Int) by omega]
    have kk : I 107 (26 * s + l2) = F (r + 2) T + 1 := by
      rw [t5 l2 (by omega), ← hl2, ← gl]; exact kx_T hE0 hT'
    refine ⟨_, (am_kk hB rfl), ⟨by omega, by omega⟩, am_nm_k kk ?_⟩
    rintro _ rfl _ _
    have n01 := (eT T hT').2.2.2
    refine ⟨fun h => s_M_askFor_36 (post I (fun _ _ _ _ => rfl) ?_), fun h => ⟨(am_kk hB rfl), am_nm_k hp ?_⟩⟩
    · rw [if_pos (Or.inr (by rw [hnwc]; simp; omega)), List.append_nil]; exact hA
    · rintro _ rfl _ _
      refine ⟨(am_kk hB rfl), m_act (p := p) (w := (c' : Int)) hB hs hρ hA.1 hA2 hA.2 (fun I' f1 a1 a2 => ⟨rfl, s_M_askFor_36 (post I' f1 ?_)⟩)⟩
      rw [if_neg (by rw [hnwc]; simp; omega)]
      exact ⟨by rw [a1]; simp, a2⟩
/-- the row's loop -/
def rw_L (d n s ρ : Nat) (K : Nat → am_K) (J : Nat → Nat → Int) (R : Nat → Nat → Option Nat) (Q : am_Q) (col : Nat) (I : Nat → Nat → Int) : Prop := am_WP (d + 5) (44, 46, [.inr (.inl 101), .inl (s : Int), .inl (ρ : Int), .inl (col : Int), .inl 1, am_o], [], (0, 0), n, K, I, J, R) Q
def rw_C (d s ρ : Nat) (Q : am_Q) (col : Nat) : am_Q := fun v1 s2 => ∃ z3 : Int, v1 = some (.inl z3) ∧ am_WP (d + 5) (44, 260, [.inr (.inl 101), .inl (s : Int), .inl (ρ : Int), .inl (col : Int), .inl 1, am_o], [.inl z3, .inl (col : Int)], (0, 0), s2) Q
theorem rw_ret {col col' : Nat} {z : Int} (h : (col : Int) + z = (col' : Int)) (hz : 0 ≤ z ∧ z ≤ 1) (hc : col ≤ 10) (hL : rw_L d n s ρ K J R Q col' I) : rw_C d s ρ Q col (some (.inl z)) (n, K, I, J, R) := by
  refine ⟨z, rfl, s_M_meaningOfRow_260 (am_ar_i (by omega) (by omega) ?_)⟩
  rw [h]; exact hL
/-- a row that is bad ends -/
theorem rd_46 {col : Nat} {k : Int} {I0 : Nat → Nat → Int} (hB : am_B K R) (hs : s < 2) (hρ : ρ < 12) (h116 : I0 116 s = (ρ : Int)) (hb : rbad (12 * s + ρ) 0 k I0 I) (hQ : ∀ I' : Nat → Nat → Int, mm_bad s k I0 I' J J → Q none (n, K, I', J, R)) : rw_L d n s ρ K J R Q col I := by
  obtain ⟨b1, b2, b3, b4, b5⟩ := hb
  have ixs : (0 : Int) ≤ (s : Int) ∧ (s : Int) < ((2 : Nat) : Int) := ⟨by omega, by omega⟩
  have i116 : I 116 s = (ρ : Int) := (b1 116 s (by unfold rf_ch; omega)).trans h116
  have r265 : am_WP (d + 5) (44, 265, [.inr (.inl 101), .inl (s : Int), .inl (ρ : Int), .inl (col : Int), .inl 1, am_o], [], (0, 0), n, K, I, J, R) Q := by
    refine s_M_meaningOfRow_265 ⟨(am_kk hB rfl), am_nm_k b2 ?_⟩
    rintro _ rfl _ _
    refine ⟨fun _ => s_M_meaningOfRow_286 ⟨(am_kk hB rfl), am_nm_k b2 ?_⟩, fun h => absurd h (by decide)⟩
    rintro _ rfl _ _
    refine ⟨fun _ => s_M_meaningOfRow_325 ⟨(am_kk hB rfl), fun z1 hz1 _ _ => ⟨(am_kk hB rfl), am_nm_k b2 ?_⟩⟩, fun h => absurd h (by decide)⟩
    rintro _ rfl _ _
    refine ⟨fun h => absurd h (by decide), fun _ => s_M_meaningOfRow_342 (am_ar_i (by omega) (by omega) ⟨⟨by decide, (am_kk hB rfl)⟩, (am_kk hB rfl), 116, (am_rf hB rfl), _, (am_kk hB rfl), ixs, am_nm_k (show am_u I 101 7 (z1 + 0) 116 s = (ρ : Int) from (am_u_ne (by decide)).trans i116) ?_⟩)⟩
    rintro _ rfl _ _
    refine am_ar_i (by omega) (by omega) ⟨_, by decide, (am_kk hB rfl), ixs, hQ _ ⟨mm_ut (mm_ut (rf_mm b1 hρ) (mm_101 (Or.inl rfl))) (mm_tb ⟨by decide, by decide⟩ (by show 1 * s ≤ s; omega) (by show s < 1 * s + 1; omega)), ?_, ?_, ?_, ?_⟩⟩
    · exact (am_u_ne (by decide)).trans ((am_u_kn (by decide)).trans b2)
    · exact (am_u_ne (by decide)).trans ((am_u_kn (by decide)).trans b3)
    · show (0 : Int) ≤ am_u (am_u I 101 7 (z1 + 0)) 116 s ((ρ : Int) + 1) 101 7
      rw [am_u_ne (by decide), am_u_kk]; omega
    · show am_u (am_u I 101 7 (z1 + 0)) 116 s ((ρ : Int) + 1) 101 7 ≤ 1300
      rw [am_u_ne (by decide), am_u_kk]; omega
  refine s_M_meaningOfRow_46 ⟨fun h => absurd h (by decide), fun _ => ⟨(am_kk hB rfl), am_nm_k b2 ?_⟩⟩
  rintro _ rfl _ _
  exact ⟨fun _ => r265, fun h => absurd h (by decide)⟩
end MN
