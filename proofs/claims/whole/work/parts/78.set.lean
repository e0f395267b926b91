/-! THE CLASS READS A SET, AND VALUES -/
def ts_sz (ts : List ty) : Nat := ls_sz ty_sz ts
theorem ts_sp_sz {kd : Nat → Int} : ∀ (ts : List ty) (p j : Nat), ts_sp kd p ts j → j = p + ts_sz ts := by
  intro ts
  induction ts with
  | nil => intro p j h; exact (show p = j from h).symm
  | cons t ts ih =>
    rintro p j ⟨m, ⟨h1, h2⟩, h3⟩
    have h4 := ih m j h3
    show j = p + (ty_sz t + ts_sz ts)
    omega
abbrev st0 : Type := List ty × Nat × List rw0
section ST
variable (kd pl nu nm : Nat → Int)
def st_sp (t : st0) : Prop := ts_sp kd 0 t.1 (ts_sz t.1) ∧ kd (ts_sz t.1) = 8 ∧ t.1.length ≤ 6 ∧ t.1 ≠ [] ∧ co_sp kd (ts_sz t.1) t.2.1 ∧ (∃ j : Nat, ls_sp (rw_sp kd pl nu nm) (ts_sz t.1 + 2 + t.2.1) t.2.2 j ∧ kd j = 0) ∧ t.2.2 ≠ [] ∧ t.2.2.length ≤ 12 ∧ rs_sz t.2.2 ≤ 60
def st_bd (k : Nat) : Prop := ts_bd kd 6 0 k ∨ ∃ ts : List ty, ts_sp kd 0 ts (ts_sz ts) ∧ kd (ts_sz ts) = 8 ∧ ts.length ≤ 6 ∧ ts ≠ [] ∧ (co_bd kd (ts_sz ts) k ∨ ∃ w : Nat, co_sp kd (ts_sz ts) w ∧ rs_bd kd pl nu nm 12 (ts_sz ts + 2 + w) 0 k)
def xst (I J : Nat → Nat → Int) (r : Nat) (t : st0) : Prop := I (r + 1) 0 = (t.1.length : Int) ∧ I (r + 1) 1 = (ts_cn t.1 : Int) ∧ xs_types I J r pl nu nm 0 0 0 t.1 ∧ I r 2 = (t.2.1 : Int) ∧ (∀ z : Nat, z < t.2.1 → I (r + 27) z = nu (ts_sz t.1 + 1 + z) ∧ I (r + 28) z = pl (ts_sz t.1 + 1 + z)) ∧ I r 3 = (t.2.2.length : Int) ∧ I (r + 15) 0 = (rs_sz t.2.2 : Int) ∧ (∃ p : Nat → Bool, I r 4 = ((mk p t.2.2.length : Nat) : Int) ∧ xw_bits p 0 t.2.2) ∧ xw_rows I J r 0 0 t.2.2
end ST
theorem xs_cons_cg {r : Nat} {I I' J J' : Nat → Nat → Int} {pl nu nm : Nat → Int} {T : Nat} (hI : ∀ a j : Nat, r + 2 ≤ a → a ≤ r + 13 → I' a j = I a j) (hJ : ∀ j : Nat, J' (r + 7) j = J (r + 7) j) : ∀ (as : List Nat) (C q : Nat), xs_cons I J r pl nu nm T C q as → xs_cons I' J' r pl nu nm T C q as := by
  intro as
  induction as with
  | nil => intro C q _; exact trivial
  | cons a as ih =>
    intro C q h
    obtain ⟨h1, h2, h3, h4, h5, h6⟩ := h
    exact ⟨(hI _ _ (by omega) (by omega)).trans h1, (hI _ _ (by omega) (by omega)).trans h2, (hJ _).trans h3, (hI _ _ (by omega) (by omega)).trans h4, fun z hz => ⟨(hI _ _ (by omega) (by omega)).trans (h5 z hz).1, (hI _ _ (by omega) (by omega)).trans (h5 z hz).2⟩, ih _ _ h6⟩
theorem xs_types_cg {r : Nat} {I I' J J' : Nat → Nat → Int} {pl nu nm : Nat → Int} (hI : ∀ a j : Nat, r + 2 ≤ a → a ≤ r + 13 → I' a j = I a j) (hJ : ∀ j : Nat, J' (r + 7) j = J (r + 7) j) : ∀ (ts : List ty) (T C p : Nat), xs_types I J r pl nu nm T C p ts → xs_types I' J' r pl nu nm T C p ts := by
  intro ts
  induction ts with
  | nil => intro T C p _; exact trivial
  | cons t ts ih =>
    intro T C p h
    obtain ⟨h1, h2, h3, h4, h5, h6, h7⟩ := h
    exact ⟨(hI _ _ (by omega) (by omega)).trans h1, (hI _ _ (by omega) (by omega)).trans h2, (hI _ _ (by omega) (by omega)).trans h3, (hI _ _ (by omega) (by omega)).trans h4, (hI _ _ (by omega) (by omega)).trans h5, xs_cons_cg hI hJ _ _ _ h6, ih _ _ _ h7⟩
/-- what the kinds say of numbers -/
def ft_R (kd nu : Nat → Int) (c : Nat) : Prop := ∀ k : Nat, k < c → (kd k = 2 → 0 ≤ nu k ∧ nu k ≤ 25) ∧ (kd k = 5 → 0 ≤ nu k ∧ nu k ≤ 999)
theorem tk_rng {I0 : Nat → Nat → Int} {xs : Nat → Int} {len p q : Nat} {k num nm : Int} (hC : ∀ a j : Nat, a < 11 → I0 a j = am_Zi xs a j) (hpq : p < q) (hX : tk_X I0 len p q k num nm) : k ≠ 0 ∧ (k = 2 → 0 ≤ num ∧ num ≤ 25) ∧ (k = 5 → 0 ≤ num ∧ num ≤ 999) := by
  rcases hX with ⟨x1, x2, x3, x4, x5⟩ | ⟨x1, x2, x3, x4, x5⟩ | ⟨x1, x2, x3, x4, x5, x6⟩
  · rcases x5 with h | h | h | h
    · rw [h.2.2]; exact ⟨by decide, by omega, by omega⟩
    · rw [h.2.2]
      refine ⟨by decide, fun _ => ?_, by omega⟩
      have g : tb_great (I0 14 p) := by
        rcases x1 with s | g
        · refine absurd ?_ h.2.1
          intro j a b
          have e : j = p := by omega
          rw [e]; exact s
        · exact g
      unfold tb_great at g
      omega
    · rw [h.2.2]; exact ⟨by decide, by omega, by omega⟩
    · rcases h.2.2 with ⟨_, rfl⟩ | ⟨_, _, rfl⟩ | ⟨_, _, _, rfl⟩ | ⟨_, _, _, _, rfl⟩ | ⟨_, _, _, _, rfl⟩ <;> exact ⟨by decide, by omega, by omega⟩
  · rcases x5 with ⟨y1, rfl⟩ | ⟨y1, rfl⟩
    · refine ⟨by decide, by omega, fun _ => ?_⟩
      have hle : q - p ≤ 3 := by omega
      have hr := tb_dv_rg (b := I0 14) (p := p) (q - p) (fun j a c => x2.2.2.1 j a (by omega))
      have h8 : (10 : Int) ^ (q - p) ≤ 1000 := by
        have : q - p = 0 ∨ q - p = 1 ∨ q - p = 2 ∨ q - p = 3 := by omega
        rcases this with e | e | e | e <;> rw [e] <;> decide
      have := x3 hle
      omega
    · exact ⟨by decide, by omega, by omega⟩
  · rcases x6 with ⟨⟨j, hj, e⟩, rfl⟩ | ⟨_, rfl⟩
    · have cs : I0 2 j = 61 ∨ I0 2 j = 124 ∨ I0 2 j = 59 ∨ I0 2 j = 40 ∨ I0 2 j = 41 ∨ I0 2 j = 95 ∨ I0 2 j = 126 ∨ I0 2 j = 33 ∨ I0 2 j = 64 ∨ I0 2 j = 63 := by
        have : j = 0 ∨ j = 1 ∨ j = 2 ∨ j = 3 ∨ j = 4 ∨ j = 5 ∨ j = 6 ∨ j = 7 ∨ j = 8 ∨ j = 9 := by omega
        rcases this with e' | e' | e' | e' | e' | e' | e' | e' | e' | e' <;> subst e' <;> rw [hC 2 _ (by decide)]
        · exact Or.inl rfl
        · exact Or.inr (Or.inl rfl)
        · exact Or.inr (Or.inr (Or.inl rfl))
        · exact Or.inr (Or.inr (Or.inr (Or.inl rfl)))
        · exact Or.inr (Or.inr (Or.inr (Or.inr (Or.inl rfl))))
        · exact Or.inr (Or.inr (Or.inr (Or.inr (Or.inr (Or.inl rfl)))))
        · exact Or.inr (Or.inr (Or.inr (Or.inr (Or.inr (Or.inr (Or.inl rfl))))))
        · exact Or.inr (Or.inr (Or.inr (Or.inr (Or.inr (Or.inr (Or.inr (Or.inl rfl)))))))
        · exact Or.inr (Or.inr (Or.inr (Or.inr (Or.inr (Or.inr (Or.inr (Or.inr (Or.inl rfl))))))))
        · exact Or.inr (Or.inr (Or.inr (Or.inr (Or.inr (Or.inr (Or.inr (Or.inr (Or.inr rfl))))))))
      omega
    · exact ⟨by decide, by omega, by omega⟩
theorem ft_T_fin {I0 I J : Nat → Nat → Int} {xs : Nat → Int} {len c : Nat} (hC : ∀ a j : Nat, a < 11 → I0 a j = am_Zi xs a j) (h : tk_fin I0 I J len c) (hl : len ≤ 1200) : ft_T I J (I 15) (I 16) (I 17) (J 18) c ∧ ft_R (I 15) (I 17) c ∧ I 13 7 = 0 := by
  obtain ⟨p, ⟨ps, qs, h0, hc, hk⟩, hn, h16, hend, h6, h7, hcl⟩ := h
  have key : ∀ k : Nat, k < c → _ := fun k hkc => tk_rng hC (hk k hkc).2.1 (hk k hkc).2.2.2.2.1
  refine ⟨⟨rfl, rfl, rfl, rfl, h6, by omega, fun k hkc => ⟨(key k hkc).1, hn k hkc⟩, ?_⟩, fun k hkc => (key k hkc).2, h7⟩
  rcases hend with h | h
  · exact Or.inl h.2
  · exact Or.inr h.2.1
section XST
variable {d n : Nat} {K : Nat → am_K} {I J : Nat → Nat → Int} {R : Nat → Nat → Option Nat} {Q : am_Q} {xs : Nat → Int} {len r : Nat}
/-- what reading a set changes -/
def xst_fr (r : Nat) (I I' J J' : Nat → Nat → Int) : Prop := (∀ a j : Nat, a ≠ 13 → a ≠ 15 → a ≠ 16 → a ≠ 17 → ¬ (r ≤ a ∧ a ≤ r + 29) → I' a j = I a j) ∧ ∀ a j : Nat, a ≠ 18 → a ≠ r + 7 → a ≠ r + 20 → J' a j = J a j
theorem x_readSet (hB : am_B K R) (hr : r = 41 ∨ r = 71) (hC : ∀ a j : Nat, a < 11 → I a j = am_Zi xs a j) (hl : I 13 1 = (len : Int)) (hL : len ≤ 1200) (hby : ∀ j : Nat, j < len → 0 ≤ I 14 j ∧ I 14 j ≤ 255)
    (ok : ∀ (I0 I1 J1 I' J' : Nat → Nat → Int) (c : Nat) (t : st0), (∀ a : Nat, a < 41 → I0 a = I a) → tk_fin I0 I1 J1 len c → ft_R (I1 15) (I1 17) c → ft_T I' J' (I1 15) (I1 16) (I1 17) (J1 18) c → xst_fr r I I' J J' → I' 13 1 = (len : Int) → st_sp (I1 15) (I1 16) (I1 17) (J1 18) t → xst (I1 16) (I1 17) (J1 18) I' J' r t → Q (some (.inl 1)) (n, K, I', J', R))
    (bad : ∀ (I0 I1 J1 I' J' : Nat → Nat → Int) (c k : Nat), (∀ a : Nat, a < 41 → I0 a = I a) → tk_fin I0 I1 J1 len c → ft_T I' J' (I1 15) (I1 16) (I1 17) (J1 18) c → xst_fr r I I' J J' → I' 13 1 = (len : Int) → st_bd (I1 15) (I1 16) (I1 17) (J1 18) k → k ≤ c → I' 13 7 = (k : Int) → Q (some (.inl 0)) (n, K, I', J', R)) : am_WP (d + 33) (am_entry 86 [.inr (.inl 12), .inr (.inl r)] (n, K, I, J, R)) Q := by
  have k0 : K r = .inl 5 := am_kq (i := 0) hB hr (by decide) rfl
  have k1 : K (r + 1) = .inl 10 := am_kq (i := 1) hB hr (by decide) rfl
  have k15 : K (r + 15) = .inl 7 := am_kq (i := 15) hB hr (by decide) rfl
  have nb : am_nc ≤ r := by unfold am_nc; omega
  refine e_Form_readSet ⟨k0, e_Rules_clear ⟨k0, _, am_rq (i := 0) hB hr rfl rfl, k1, e_Types_clear ⟨⟨by omega, k1⟩, ⟨by omega, k1⟩, rfl, s_Rules_clear_7 ⟨k0, _, am_rq (i := 0) hB hr rfl rfl, k15, e_Terms_clear ⟨⟨by omega, k15⟩, ⟨by omega, k15⟩, rfl, s_Rules_clear_14 ⟨⟨nb, k0⟩, ⟨nb, k0⟩, ⟨nb, k0⟩, rfl, s_Form_readSet_4 ⟨(am_kk hB rfl), _, (am_rf hB rfl), (am_kk hB rfl), ?_⟩⟩⟩⟩⟩⟩⟩
  have z0 : ∀ a j : Nat, ¬ (a = r + 1) → ¬ (a = r + 15) → ¬ (a = r) → am_u (am_u (am_u (am_u (am_u (am_u (am_u I (r + 1) 0 0) (r + 1) 1 0) (r + 15) 0 0) (r + 15) 1 (-1)) r 2 0) r 3 0) r 4 0 a j = I a j := by
    intro a j h1 h2 h3
    rw [am_u_ne h3, am_u_ne h3, am_u_ne h3, am_u_ne h2, am_u_ne h2, am_u_ne h1, am_u_ne h1]
  have c1 : am_u (am_u (am_u (am_u (am_u (am_u (am_u I (r + 1) 0 0) (r + 1) 1 0) (r + 15) 0 0) (r + 15) 1 (-1)) r 2 0) r 3 0) r 4 0 (r + 1) 0 = 0 := by rw [am_u_ne (by omega), am_u_ne (by omega), am_u_ne (by omega), am_u_ne (by omega), am_u_ne (by omega), am_u_kn (by decide), am_u_kk]
  have c2 : am_u (am_u (am_u (am_u (am_u (am_u (am_u I (r + 1) 0 0) (r + 1) 1 0) (r + 15) 0 0) (r + 15) 1 (-1)) r 2 0) r 3 0) r 4 0 (r + 1) 1 = 0 := by rw [am_u_ne (by omega), am_u_ne (by omega), am_u_ne (by omega), am_u_ne (by omega), am_u_ne (by omega), am_u_kk]
  have c3 : am_u (am_u (am_u (am_u (am_u (am_u (am_u I (r + 1) 0 0) (r + 1) 1 0) (r + 15) 0 0) (r + 15) 1 (-1)) r 2 0) r 3 0) r 4 0 (r + 15) 0 = 0 := by rw [am_u_ne (by omega), am_u_ne (by omega), am_u_ne (by omega), am_u_kn (by decide), am_u_kk]
  have c4 : am_u (am_u (am_u (am_u (am_u (am_u (am_u I (r + 1) 0 0) (r + 1) 1 0) (r + 15) 0 0) (r + 15) 1 (-1)) r 2 0) r 3 0) r 4 0 r 2 = 0 := by rw [am_u_kn (by decide), am_u_kn (by decide), am_u_kk]
  have c5 : am_u (am_u (am_u (am_u (am_u (am_u (am_u I (r + 1) 0 0) (r + 1) 1 0) (r + 15) 0 0) (r + 15) 1 (-1)) r 2 0) r 3 0) r 4 0 r 3 = 0 := by rw [am_u_kn (by decide), am_u_kk]
  have c6 : am_u (am_u (am_u (am_u (am_u (am_u (am_u I (r + 1) 0 0) (r + 1) 1 0) (r + 15) 0 0) (r + 15) 1 (-1)) r 2 0) r 3 0) r 4 0 r 4 = 0 := am_u_kk
  generalize am_u (am_u (am_u (am_u (am_u (am_u (am_u I (r + 1) 0 0) (r + 1) 1 0) (r + 15) 0 0) (r + 15) 1 (-1)) r 2 0) r 3 0) r 4 0 = I0 at z0 c1 c2 c3 c4 c5 c6 ⊢
  have r0 : ∀ a : Nat, a < 41 → I0 a = I a := fun a h => funext fun j => z0 a j (by omega) (by omega) (by omega)
  have hC0 : ∀ a j : Nat, a < 11 → I0 a j = am_Zi xs a j := fun a j h => (congrFun (r0 a (by omega)) j).trans (hC a j h)
  obtain ⟨t1, t3, t5, t7, t9⟩ := am_tx_of (I0 := I0) hB hC0
  refine c_cut (len := len) hB t1 t3 t5 t7 t9 (by rw [r0 13 (by decide)]; exact hl) hL (by rw [r0 14 (by decide)]; exact hby) (fun I1 J1 c g1 g2 g3 g4 => ⟨rfl, ?_⟩)
  obtain ⟨hT, hR, h7⟩ := ft_T_fin hC0 g4 hL
  have y0 : ∀ a j : Nat, r ≤ a → I1 a j = I0 a j := fun a j h => congrFun (g1 a (by omega) (by omega) (by omega) (by omega)) j
  have fr1 : xst_fr r I I1 J J1 := ⟨fun a j a1 a2 a3 a4 a5 => (congrFun (g1 a a1 a2 a3 a4) j).trans (z0 a j (by omega) (by omega) (by omega)), fun a j b1 b2 b3 => congrFun (g3 a b1) j⟩
  refine s_Form_readSet_11 ⟨k0, r + 1, am_rq (i := 0) hB hr rfl rfl, (am_kk hB rfl), e_Form_readTypes ?_⟩
  refine x_types hB hr 6 0 0 0 I1 J1 _ (true, 0) hT h7 (Nat.zero_le _) ((y0 _ _ (by omega)).trans c1) ((y0 _ _ (by omega)).trans c2) (by decide) (by decide) (fun I2 J2 ts j h => ⟨_, rfl, ?_⟩) (fun I2 J2 k hk hkc hki hf => ⟨_, rfl, ?_⟩)
  · obtain ⟨a1, a2, a3, a4, a5, a6, a7, a8, a9, a10⟩ := h
    have ej : j = ts_sz ts := by have := ts_sp_sz ts 0 j a1; omega
    subst ej
    have hT2 := ft_T_xy hr hT a6
    have fr2 : xst_fr r I I2 J J2 := ⟨fun a j b1 b2 b3 b4 b5 => (a6.1 a j (by omega) (by omega) (by omega) (by omega) (by omega)).trans (fr1.1 a j b1 b2 b3 b4 b5), fun a j b1 b2 b3 => (a6.2 a j (by omega)).trans (fr1.2 a j b1 b2 b3)⟩
    have lt2 : ts_sz ts < c := ft_lt hT2 a5 (by rw [a2]; decide) (by rw [a2]; decide)
    have n2 : I2 r 2 = 0 := (a6.1 r 2 (by omega) (by omega) (by omega) (by omega) (by omega)).trans ((y0 _ _ (by omega)).trans c4)
    refine s_Form_readSet_19 ⟨fun h => absurd h (by decide), fun _ => ⟨(am_kk hB rfl), x_columns hB hr hT2 a7 lt2 n2 (fun I3 w w1 w2 w3 w4 w5 w6 => ⟨_, rfl, ?_⟩) (fun I3 k hk hkc hki hf => ⟨_, rfl, ?_⟩)⟩⟩
    · have hT3 := ft_T_xk hr hT2 w2
      have fr3 : xst_fr r I I3 J J2 := ⟨fun a j b1 b2 b3 b4 b5 => (w2 a j (by omega) (by omega) (by omega) (by omega)).trans (fr2.1 a j b1 b2 b3 b4 b5), fr2.2⟩
      have m3 : I3 r 3 = ((0 : Nat) : Int) := (w2 r 3 (by omega) (by omega) (by omega) (by omega)).trans ((a6.1 r 3 (by omega) (by omega) (by omega) (by omega) (by omega)).trans ((y0 _ _ (by omega)).trans c5))
      have m15 : I3 (r + 15) 0 = ((0 : Nat) : Int) := (w2 (r + 15) 0 (by omega) (by omega) (by omega) (by omega)).trans ((a6.1 (r + 15) 0 (by omega) (by omega) (by omega) (by omega) (by omega)).trans ((y0 _ _ (by omega)).trans c3))
      have m4 : I3 r 4 = ((mk (fun _ => false) 0 : Nat) : Int) := (w2 r 4 (by omega) (by omega) (by omega) (by omega)).trans ((a6.1 r 4 (by omega) (by omega) (by omega) (by omega) (by omega)).trans ((y0 _ _ (by omega)).trans c6))
      refine s_Form_readSet_27 ⟨fun h => absurd h (by decide), fun _ => ⟨(am_kk hB rfl), e_Form_readRows (x_rows hB hr 12 (ts_sz ts + 2 + w) 0 0 I3 J2 _ (fun _ => false) hT3 w4 w3 m3 (by decide) m15 (by decide) m4 (fun I4 J4 ws j p' h => ⟨_, rfl, ?_⟩) (fun I4 J4 k hk hkc hki hf => ⟨_, rfl, ?_⟩))⟩⟩
      · obtain ⟨b1, b2, b3, b4, b5, b6, b7, b8, b9, b10, b11, b12, b13, b14⟩ := h
        refine s_Form_readSet_35 ⟨fun h => absurd h (by decide), fun _ => s_Form_readSet_43 ⟨Or.inr rfl, ok I0 I1 J1 I4 J4 c (ts, w, ws) r0 g4 hR (ft_T_xw hr hT3 b13) ?_ ?_ ⟨a1, a2, a3, a4 rfl, w1, ⟨j, b1, b2⟩, b3 rfl, b4, by show rs_sz ws ≤ 60; omega⟩ ?_⟩⟩
        · exact ⟨fun a j e1 e2 e3 e4 e5 => (b13.1 a j (by omega) (by omega) (by omega) (by omega) (by omega)).trans (fr3.1 a j e1 e2 e3 e4 e5), fun a j e1 e2 e3 => (b13.2 a j (by omega)).trans (fr3.2 a j e1 e2 e3)⟩
        · rw [b13.1 13 1 (by omega) (by omega) (by omega) (by omega) (by omega), w2 13 1 (by omega) (by omega) (by omega) (by omega), a6.1 13 1 (by omega) (by omega) (by omega) (by omega) (by omega)]; exact g2
        · refine ⟨?_, ?_, ?_, ?_, fun z hz => ⟨?_, ?_⟩, ?_, ?_, ⟨p', ?_, b11⟩, b14⟩
          · rw [b13.1 _ _ (by omega) (by omega) (by omega) (by omega) (by omega), w2 _ _ (by omega) (by omega) (by omega) (by omega), a8, Nat.zero_add]
          · rw [b13.1 _ _ (by omega) (by omega) (by omega) (by omega) (by omega), w2 _ _ (by omega) (by omega) (by omega) (by omega), a9, Nat.zero_add]
          · exact xs_types_cg (fun a j e1 e2 => (b13.1 a j (by omega) (by omega) (by omega) (by omega) (by omega)).trans (w2 a j (by omega) (by omega) (by omega) (by omega))) (fun j => b13.2 _ _ (by omega)) _ _ _ _ a10
          · rw [b13.1 _ _ (by omega) (by omega) (by omega) (by omega) (by omega), w5]
          · rw [b13.1 _ _ (by omega) (by omega) (by omega) (by omega) (by omega)]; exact (w6 z hz).1
          · rw [b13.1 _ _ (by omega) (by omega) (by omega) (by omega) (by omega)]; exact (w6 z hz).2
          · rw [b8, Nat.zero_add]
          · rw [b9, Nat.zero_add]
          · rw [b10, Nat.zero_add]
      · refine s_Form_readSet_35 ⟨fun _ => s_Form_readSet_43 ⟨Or.inl rfl, bad I0 I1 J1 I4 J4 c k r0 g4 (ft_T_xw hr hT3 hf) ?_ ?_ (Or.inr ⟨ts, a1, a2, a3, a4 rfl, Or.inr ⟨w, w1, hk⟩⟩) hkc hki⟩, fun h => absurd rfl h⟩
        · exact ⟨fun a j e1 e2 e3 e4 e5 => (hf.1 a j (by omega) (by omega) (by omega) (by omega) (by omega)).trans (fr3.1 a j e1 e2 e3 e4 e5), fun a j e1 e2 e3 => (hf.2 a j (by omega)).trans (fr3.2 a j e1 e2 e3)⟩
        · rw [hf.1 13 1 (by omega) (by omega) (by omega) (by omega) (by omega), w2 13 1 (by omega) (by omega) (by omega) (by omega), a6.1 13 1 (by omega) (by omega) (by omega) (by omega) (by omega)]; exact g2
    · refine s_Form_readSet_27 ⟨fun _ => s_Form_readSet_43 ⟨Or.inl rfl, bad I0 I1 J1 I3 J2 c k r0 g4 (ft_T_xk hr hT2 hf) ?_ ?_ (Or.inr ⟨ts, a1, a2, a3, a4 rfl, Or.inl hk⟩) hkc hki⟩, fun h => absurd rfl h⟩
      · exact ⟨fun a j e1 e2 e3 e4 e5 => (hf a j (by omega) (by omega) (by omega) (by omega)).trans (fr2.1 a j e1 e2 e3 e4 e5), fr2.2⟩
      · rw [hf 13 1 (by omega) (by omega) (by omega) (by omega), a6.1 13 1 (by omega) (by omega) (by omega) (by omega) (by omega)]; exact g2
  · refine s_Form_readSet_19 ⟨fun _ => s_Form_readSet_43 ⟨Or.inl rfl, bad I0 I1 J1 I2 J2 c k r0 g4 (ft_T_xy hr hT hf) ?_ ?_ (Or.inl hk) hkc hki⟩, fun h => absurd rfl h⟩
    · exact ⟨fun a j b1 b2 b3 b4 b5 => (hf.1 a j (by omega) (by omega) (by omega) (by omega) (by omega)).trans (fr1.1 a j b1 b2 b3 b4 b5), fun a j b1 b2 b3 => (hf.2 a j (by omega)).trans (fr1.2 a j b1 b2 b3)⟩
    · rw [hf.1 13 1 (by omega) (by omega) (by omega) (by omega) (by omega)]; exact g2
/-- what reading values changes -/
def xv_fr (I I' J J' : Nat → Nat → Int) : Prop := (∀ a j : Nat, a ≠ 13 → a ≠ 15 → a ≠ 16 → a ≠ 17 → ¬ (19 ≤ a ∧ a ≤ 28) → I' a j = I a j) ∧ ∀ a j : Nat, a ≠ 18 → a ≠ 24 → J' a j = J a j
def vl_sp (kd pl nu nm : Nat → Int) (ts : List (tm 6)) : Prop := ts ≠ [] ∧ (∃ j : Nat, ls_sp (ft_sp kd pl nu nm true 6) 0 ts j ∧ kd j = 0) ∧ ls_sz (tm_sz 6) ts ≤ 60
def vl_bd (kd pl nu nm : Nat → Int) (k : Nat) : Prop := ft_bl kd pl nu nm true 6 0 0 k ∨ ∃ ts : List (tm 6), ts ≠ [] ∧ ls_sp (ft_sp kd pl nu nm true 6) 0 ts k ∧ ls_sz (tm_sz 6) ts ≤ 60 ∧ ft_le (kd k) ∧ kd k ≠ 0
theorem x_readValues (hB : am_B K R) (hC : ∀ a j : Nat, a < 11 → I a j = am_Zi xs a j) (hl : I 13 1 = (len : Int)) (hL : len ≤ 1200) (hby : ∀ j : Nat, j < len → 0 ≤ I 14 j ∧ I 14 j ≤ 255)
    (ok : ∀ (I0 I1 J1 I' J' : Nat → Nat → Int) (c : Nat) (ts : List (tm 6)), (∀ a : Nat, a < 19 → I0 a = I a) → tk_fin I0 I1 J1 len c → ft_R (I1 15) (I1 17) c → ft_T I' J' (I1 15) (I1 16) (I1 17) (J1 18) c → xv_fr I I' J J' → I' 13 1 = (len : Int) → vl_sp (I1 15) (I1 16) (I1 17) (J1 18) ts → I' 19 0 = (ls_sz (tm_sz 6) ts : Int) → I' 19 1 = 0 → ls_H (ft_H I' J' 19 6) (tm_sz 6) (I' 28) 0 ts → Q (some (.inl 1)) (n, K, I', J', R))
    (bad : ∀ (I0 I1 J1 I' J' : Nat → Nat → Int) (c k : Nat), (∀ a : Nat, a < 19 → I0 a = I a) → tk_fin I0 I1 J1 len c → ft_T I' J' (I1 15) (I1 16) (I1 17) (J1 18) c → xv_fr I I' J J' → I' 13 1 = (len : Int) → vl_bd (I1 15) (I1 16) (I1 17) (J1 18) k → k ≤ c → Q (some (.inl 0)) (n, K, I', J', R)) : am_WP (d + 33) (am_entry 87 [.inr (.inl 12), .inr (.inl 19)] (n, K, I, J, R)) Q := by
  have hb : ft_b 19 := Or.inl rfl
  refine e_Form_readValues ⟨(am_kk hB rfl), e_Terms_clear ⟨⟨by decide, (am_kk hB rfl)⟩, ⟨by decide, (am_kk hB rfl)⟩, rfl, s_Form_readValues_4 ⟨(am_kk hB rfl), _, (am_rf hB rfl), (am_kk hB rfl), ?_⟩⟩⟩
  have z0 : ∀ a j : Nat, a ≠ 19 → am_u (am_u I 19 0 0) 19 1 (-1) a j = I a j := fun a j h => (am_u_ne h).trans (am_u_ne h)
  have c1 : am_u (am_u I 19 0 0) 19 1 (-1) 19 0 = 0 := (am_u_kn (by decide)).trans am_u_kk
  generalize am_u (am_u I 19 0 0) 19 1 (-1) = I0 at z0 c1 ⊢
  have r0 : ∀ a : Nat, a < 19 → I0 a = I a := fun a h => funext fun j => z0 a j (by omega)
  have hC0 : ∀ a j : Nat, a < 11 → I0 a j = am_Zi xs a j := fun a j h => (congrFun (r0 a (by omega)) j).trans (hC a j h)
  obtain ⟨t1, t3, t5, t7, t9⟩ := am_tx_of (I0 := I0) hB hC0
  refine c_cut (len := len) hB t1 t3 t5 t7 t9 (by rw [r0 13 (by decide)]; exact hl) hL (by rw [r0 14 (by decide)]; exact hby) (fun I1 J1 c g1 g2 g3 g4 => ⟨rfl, ?_⟩)
  obtain ⟨hT, hR, h7⟩ := ft_T_fin hC0 g4 hL
  have fr1 : xv_fr I I1 J J1 := ⟨fun a j a1 a2 a3 a4 a5 => (congrFun (g1 a a1 a2 a3 a4) j).trans (z0 a j (by omega)), fun a j b1 _ => congrFun (g3 a b1) j⟩
  have m0 : I1 19 0 = ((0 : Nat) : Int) := (congrFun (g1 19 (by decide) (by decide) (by decide) (by decide)) 0).trans c1
  refine s_Form_readValues_11 ⟨(am_kk hB rfl), (xt_all 6 (Nat.le_refl _)).2 n K I1 J1 R _ _ _ _ _ c 0 19 0 true (d + 32) hB hb hT h7 (Nat.zero_le _) m0 (by decide) (by omega) (fun I2 J2 ts j h => ⟨_, rfl, ?_⟩) (fun I2 J2 k h => ⟨_, rfl, ?_⟩)⟩
  · obtain ⟨a1, a2, a3, a4, a5, a6, a7, a8, a9⟩ := h
    have hT2 := ft_T_fr hb hT a8
    have u1 : ∀ a j : Nat, a ≠ 19 → am_u I2 19 1 ((0 : Nat) : Int) a j = I2 a j := fun a j h => am_u_ne h
    have hT3 : ft_T (am_u I2 19 1 ((0 : Nat) : Int)) J2 (I1 15) (I1 16) (I1 17) (J1 18) c := by
      obtain ⟨b1, b2, b3, b4, b5, b6⟩ := hT2
      exact ⟨by rw [am_u_row (by decide)]; exact b1, by rw [am_u_row (by decide)]; exact b2, by rw [am_u_row (by decide)]; exact b3, b4, (u1 _ _ (by decide)).trans b5, b6⟩
    have fr2 : xv_fr I (am_u I2 19 1 ((0 : Nat) : Int)) J J2 := ⟨fun a j b1 b2 b3 b4 b5 => ((u1 a j (by omega)).trans (a8.1 a j (by omega) (by omega))).trans (fr1.1 a j b1 b2 b3 b4 b5), fun a j b1 b2 => (a8.2.2.2 a j (by omega)).trans (fr1.2 a j b1 b2)⟩
    have l1 : am_u I2 19 1 ((0 : Nat) : Int) 13 1 = (len : Int) := (u1 _ _ (by decide)).trans ((a8.1 13 1 (by omega) (by omega)).trans g2)
    refine s_Form_readValues_19 ⟨⟨by decide, (am_kk hB rfl)⟩, (am_kk hB rfl), am_nm_k am_u_kk ?_⟩
    rintro _ rfl _ _
    refine ⟨fun h => absurd h (by decide), fun _ => ⟨(am_kk hB rfl), _, (am_rf hB rfl), (am_kk hB rfl), x_kind hB hT3 ((u1 _ _ (by decide)).trans a6) a5 ⟨_, rfl, s_Form_readValues_37 ⟨fun h => s_Form_readValues_45 ⟨Or.inl rfl, bad I0 I1 J1 _ J2 c j r0 g4 hT3 fr2 l1 (Or.inr ⟨ts, a1, a2, by omega, a3, h⟩) a5⟩, fun h => s_Form_readValues_45 ⟨Or.inr rfl, ok I0 I1 J1 _ J2 c ts r0 g4 hR hT3 fr2 l1 ⟨a1, ⟨j, a2, h⟩, by omega⟩ ?_ am_u_kk ?_⟩⟩⟩⟩⟩
    · rw [am_u_kn (by decide), a7, Nat.zero_add]
    · exact ft_HL_frame a9 (fun x y e1 e2 _ _ => u1 x y (by omega)) (fun _ _ _ => rfl)
  · obtain ⟨b1, b2, b3, b4⟩ := h
    have u1 : ∀ a j : Nat, a ≠ 19 → am_u I2 19 1 (-1) a j = I2 a j := fun a j h => am_u_ne h
    have hT3 : ft_T (am_u I2 19 1 (-1)) J2 (I1 15) (I1 16) (I1 17) (J1 18) c := by
      obtain ⟨b1, b2, b3, b4, b5, b6⟩ := ft_T_fr hb hT b4
      exact ⟨by rw [am_u_row (by decide)]; exact b1, by rw [am_u_row (by decide)]; exact b2, by rw [am_u_row (by decide)]; exact b3, b4, (u1 _ _ (by decide)).trans b5, b6⟩
    refine s_Form_readValues_19 ⟨⟨by decide, (am_kk hB rfl)⟩, (am_kk hB rfl), am_nm_k am_u_kk ?_⟩
    rintro _ rfl _ _
    refine ⟨fun _ => s_Form_readValues_45 ⟨Or.inl rfl, bad I0 I1 J1 _ J2 c k r0 g4 hT3 ?_ ?_ (Or.inl b1) b2⟩, fun h => absurd rfl h⟩
    · exact ⟨fun a j e1 e2 e3 e4 e5 => ((u1 a j (by omega)).trans (b4.1 a j (by omega) (by omega))).trans (fr1.1 a j e1 e2 e3 e4 e5), fun a j e1 e2 => (b4.2.2.2 a j (by omega)).trans (fr1.2 a j e1 e2)⟩
    · exact (u1 _ _ (by decide)).trans ((b4.1 13 1 (by omega) (by omega)).trans g2)
end XST
