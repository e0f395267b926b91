/-! THE CLASS READS COLUMNS AND ROWS -/
def co_sp (kd : Nat → Int) (p w : Nat) : Prop := 0 < w ∧ w ≤ 4 ∧ (∀ z : Nat, z < w → kd (p + 1 + z) = 2) ∧ kd (p + 1 + w) = 59
def co_bd (kd : Nat → Int) (p k : Nat) : Prop := ∃ w : Nat, w ≤ 4 ∧ (∀ z : Nat, z < w → kd (p + 1 + z) = 2) ∧ k = p + 1 + w ∧ (w = 4 ∨ kd k ≠ 2) ∧ (w = 0 ∨ kd k ≠ 59)
abbrev rw0 : Type := List (tm 6) × Bool × Int
def rw_sz (w : rw0) : Nat := ls_sz (tm_sz 6) w.1
def rs_sz (ws : List rw0) : Nat := ls_sz rw_sz ws
section RW
variable (kd pl nu nm : Nat → Int)
def rw_sp (i : Nat) (w : rw0) (j : Nat) : Prop := w.1 ≠ [] ∧ ∃ e : Nat, ls_sp (ft_sp kd pl nu nm false 6) i w.1 e ∧ w.2.2 = pl e ∧ (w.2.1 = true ∧ kd e = 9 ∧ kd (e + 1) = 59 ∧ j = e + 2 ∨ w.2.1 = false ∧ kd e = 59 ∧ j = e + 1)
def rw_bd (i m k : Nat) : Prop := ft_bl kd pl nu nm false 6 i m k ∨ ∃ (ts : List (tm 6)) (e : Nat), ts ≠ [] ∧ ls_sp (ft_sp kd pl nu nm false 6) i ts e ∧ m + ls_sz (tm_sz 6) ts ≤ 60 ∧ ft_le (kd e) ∧ (kd e ≠ 9 ∧ kd e ≠ 59 ∧ k = e ∨ kd e = 9 ∧ kd (e + 1) ≠ 59 ∧ k = e + 1)
def rs_bd : Nat → Nat → Nat → Nat → Prop
  | 0, i, _, k => kd i ≠ 0 ∧ k = i
  | y + 1, i, m, k => y = 11 ∧ kd i = 0 ∧ k = i ∨ kd i ≠ 0 ∧ rw_bd kd pl nu nm i m k ∨ kd i ≠ 0 ∧ ∃ (w : rw0) (j : Nat), rw_sp kd pl nu nm i w j ∧ m + rw_sz w ≤ 60 ∧ rs_bd y j (m + rw_sz w) k
end RW
def xw_rows (I J : Nat → Nat → Int) (r : Nat) : Nat → Nat → List rw0 → Prop
  | _, _, [] => True
  | ρ, m, w :: ws => I (r + 25) ρ = (m : Int) ∧ I (r + 29) ρ = w.2.2 ∧ ls_H (ft_H I J (r + 15) 6) (tm_sz 6) (I (r + 24)) m w.1 ∧ xw_rows I J r (ρ + 1) (m + rw_sz w) ws
def xw_bits (p : Nat → Bool) : Nat → List rw0 → Prop
  | _, [] => True
  | ρ, w :: ws => p ρ = !w.2.1 ∧ xw_bits p (ρ + 1) ws
def xk_fr (r : Nat) (I I' : Nat → Nat → Int) : Prop := ∀ a j : Nat, ¬ (a = 13 ∧ j = 7) → ¬ (a = r ∧ j = 2) → a ≠ r + 27 → a ≠ r + 28 → I' a j = I a j
theorem xk_refl {r : Nat} {I : Nat → Nat → Int} : xk_fr r I I := fun _ _ _ _ _ _ => rfl
theorem xk_ut {r a k : Nat} {I I1 : Nat → Nat → Int} {v : Int} (h0 : xk_fr r I I1) (h : (a = 13 ∧ k = 7) ∨ (a = r ∧ k = 2) ∨ a = r + 27 ∨ a = r + 28) : xk_fr r I (am_u I1 a k v) := fun x j g1 g2 g3 g4 => (am_u_off (by rintro ⟨rfl, rfl⟩; omega)).trans (h0 x j g1 g2 g3 g4)
theorem ft_T_xk {r c : Nat} {I I' J : Nat → Nat → Int} {kd pl nu nm : Nat → Int} (hr : r = 41 ∨ r = 71) (h : ft_T I J kd pl nu nm c) (hf : xk_fr r I I') : ft_T I' J kd pl nu nm c := by
  obtain ⟨h1, h2, h3, h4, h5, h6⟩ := h
  refine ⟨?_, ?_, ?_, h4, ?_, h6⟩
  · rw [← h1]; funext j; exact hf 15 j (by omega) (by omega) (by omega) (by omega)
  · rw [← h2]; funext j; exact hf 16 j (by omega) (by omega) (by omega) (by omega)
  · rw [← h3]; funext j; exact hf 17 j (by omega) (by omega) (by omega) (by omega)
  · rw [hf 13 6 (by omega) (by omega) (by omega) (by omega)]; exact h5
def xw_fr (r ρ m : Nat) (I I' J J' : Nat → Nat → Int) : Prop := (∀ a j : Nat, ¬ (a = 13 ∧ j = 7) → ¬ (a = r ∧ (j = 3 ∨ j = 4)) → ¬ (a = r + 15 ∧ j = 0) → ¬ (r + 16 ≤ a ∧ a ≤ r + 24 ∧ m ≤ j) → ¬ ((a = r + 25 ∨ a = r + 29) ∧ ρ ≤ j) → I' a j = I a j) ∧ ∀ a j : Nat, ¬ (a = r + 20 ∧ m ≤ j) → J' a j = J a j
theorem xw_refl {r ρ m : Nat} {I J : Nat → Nat → Int} : xw_fr r ρ m I I J J := ⟨fun _ _ _ _ _ _ _ => rfl, fun _ _ _ => rfl⟩
theorem xw_trans {r ρ m ρ' m' : Nat} {I I1 I2 J J1 J2 : Nat → Nat → Int} (h : xw_fr r ρ m I I1 J J1) (h' : xw_fr r ρ' m' I1 I2 J1 J2) (hT : ρ ≤ ρ') (hC : m ≤ m') : xw_fr r ρ m I I2 J J2 :=
  ⟨fun x j g1 g2 g3 g4 g5 => (h'.1 x j g1 g2 g3 (by omega) (by omega)).trans (h.1 x j g1 g2 g3 g4 g5), fun x j g => (h'.2 x j (by omega)).trans (h.2 x j g)⟩
theorem xw_ut {r ρ m a k : Nat} {I I1 J J1 : Nat → Nat → Int} {v : Int} (h0 : xw_fr r ρ m I I1 J J1) (h : (a = 13 ∧ k = 7) ∨ (a = r ∧ (k = 3 ∨ k = 4)) ∨ ((a = r + 25 ∨ a = r + 29) ∧ ρ ≤ k)) : xw_fr r ρ m I (am_u I1 a k v) J J1 :=
  ⟨fun x j g1 g2 g3 g4 g5 => (am_u_off (by rintro ⟨rfl, rfl⟩; omega)).trans (h0.1 x j g1 g2 g3 g4 g5), h0.2⟩
theorem xw_ft {r ρ m : Nat} {I I' J J' : Nat → Nat → Int} (h : ft_fr (r + 15) m I I' J J') : xw_fr r ρ m I I' J J' := by
  refine ⟨fun a j g1 g2 g3 g4 g5 => ?_, fun a j g => h.2.2.2 a j (by omega)⟩
  by_cases e : a < r + 15 ∨ r + 15 + 9 < a
  · exact h.1 a j e g1
  · by_cases e2 : a = r + 15
    · subst e2; exact h.2.2.1 j (fun q => g3 ⟨rfl, q⟩)
    · exact h.2.1 a j (by omega) (by omega) (by omega)
theorem ft_T_xw {r ρ m c : Nat} {I I' J J' : Nat → Nat → Int} {kd pl nu nm : Nat → Int} (hr : r = 41 ∨ r = 71) (h : ft_T I J kd pl nu nm c) (hf : xw_fr r ρ m I I' J J') : ft_T I' J' kd pl nu nm c := by
  obtain ⟨h1, h2, h3, h4, h5, h6⟩ := h
  refine ⟨?_, ?_, ?_, ?_, ?_, h6⟩
  · rw [← h1]; funext j; exact hf.1 15 j (by omega) (by omega) (by omega) (by omega) (by omega)
  · rw [← h2]; funext j; exact hf.1 16 j (by omega) (by omega) (by omega) (by omega) (by omega)
  · rw [← h3]; funext j; exact hf.1 17 j (by omega) (by omega) (by omega) (by omega) (by omega)
  · rw [← h4]; funext j; exact hf.2 18 j (by omega)
  · rw [hf.1 13 6 (by omega) (by omega) (by omega) (by omega) (by omega)]; exact h5
def ps (p : Nat → Bool) (ρ : Nat) (v : Bool) : Nat → Bool := fun q => bif q == ρ then v else p q
theorem ps_eq {p : Nat → Bool} {ρ : Nat} {v : Bool} : ps p ρ v ρ = v := by simp [ps]
theorem ps_ne {p : Nat → Bool} {ρ q : Nat} {v : Bool} (h : q ≠ ρ) : ps p ρ v q = p q := by
  have e : (q == ρ) = false := by simp [h]
  simp [ps, e]
section XR
variable {d n : Nat} {K : Nat → am_K} {I J : Nat → Nat → Int} {R : Nat → Nat → Option Nat} {Q : am_Q} {kd pl nu nm : Nat → Int} {c r p : Nat}
theorem x_addColumn {x1 x2 : Int} {w : Nat} (hB : am_B K R) (hr : r = 41 ∨ r = 71) (hw : I r 2 = (w : Int)) (hw4 : w < 4)
    (post : Q none (n, K, am_u (am_u (am_u I (r + 27) w x1) (r + 28) w x2) r 2 ((w + 1 : Nat) : Int), J, R)) : am_WP d (am_entry 108 [.inr (.inl r), .inl x1, .inl x2] (n, K, I, J, R)) Q := by
  have k0 : K r = .inl 5 := am_kq (i := 0) hB hr (by decide) rfl
  have nb : am_nc ≤ r := by unfold am_nc; omega
  refine e_Rules_addColumn ⟨k0, am_nm_k hw ?_⟩
  rintro _ rfl _ _
  refine ⟨fun h => absurd h (by omega), fun _ => ⟨k0, r + 27, am_rq (i := 0) hB hr rfl rfl, k0, am_nm_k hw ?_⟩⟩
  rintro _ rfl _ _
  refine ⟨_, by omega, am_kq hB hr (by decide) rfl, ⟨by omega, by omega⟩, k0, r + 28, am_rq (i := 0) hB hr rfl rfl, k0, am_nm_k ((am_u_ne (by omega)).trans hw) ?_⟩
  rintro _ rfl _ _
  refine ⟨_, by omega, am_kq hB hr (by decide) rfl, ⟨by omega, by omega⟩, k0, am_nm_k ((am_u_ne (by omega)).trans ((am_u_ne (by omega)).trans hw)) ?_⟩
  rintro _ rfl _ _
  exact am_ar_i (by omega) (by omega) ⟨⟨nb, k0⟩, post⟩
def xk_P (kd pl nu : Nat → Int) (c r p w : Nat) (I I' : Nat → Nat → Int) : Prop := xk_fr r I I' ∧ (∀ z : Nat, z < w → kd (p + 1 + z) = 2) ∧ p + 1 + w ≤ c ∧ I' 13 7 = ((p + 1 + w : Nat) : Int) ∧ I' r 2 = (w : Int) ∧ ∀ z : Nat, z < w → I' (r + 27) z = nu (p + 1 + z) ∧ I' (r + 28) z = pl (p + 1 + z)
theorem x_columns (hB : am_B K R) (hr : r = 41 ∨ r = 71) (hT : ft_T I J kd pl nu nm c) (hi : I 13 7 = (p : Int)) (hc : p < c) (h2 : I r 2 = 0)
    (ok : ∀ (I' : Nat → Nat → Int) (w : Nat), co_sp kd p w → xk_fr r I I' → p + 2 + w ≤ c → I' 13 7 = ((p + 2 + w : Nat) : Int) → I' r 2 = (w : Int) → (∀ z : Nat, z < w → I' (r + 27) z = nu (p + 1 + z) ∧ I' (r + 28) z = pl (p + 1 + z)) → Q (some (.inl 1)) (n, K, I', J, R))
    (bad : ∀ (I' : Nat → Nat → Int) (k : Nat), co_bd kd p k → k ≤ c → I' 13 7 = (k : Int) → xk_fr r I I' → Q (some (.inl 0)) (n, K, I', J, R)) : am_WP (d + 2) (am_entry 91 [.inr (.inl 12), .inr (.inl r)] (n, K, I, J, R)) Q := by
  have k0 : K r = .inl 5 := am_kq (i := 0) hB hr (by decide) rfl
  refine e_Form_readColumns ⟨(am_kk hB rfl), _, (am_rf hB rfl), (am_kk hB rfl), x_adv hB hT hi hc ⟨rfl, s_Form_readColumns_7 ?_⟩⟩
  have P0 : xk_P kd pl nu c r p 0 I (am_u I 13 7 ((p + 1 : Nat) : Int)) := ⟨xk_ut xk_refl (by omega), fun z hz => absurd hz (by omega), hc, am_u_kk, (am_u_ne (by omega)).trans h2, fun z hz => absurd hz (by omega)⟩
  generalize am_u I 13 7 ((p + 1 : Nat) : Int) = I0 at P0 ⊢
  have fin : ∀ (w : Nat) (I' : Nat → Nat → Int), xk_P kd pl nu c r p w I I' → w ≤ 4 → (w = 4 ∨ kd (p + 1 + w) ≠ 2) → am_WP (d + 2) (91, 56, [.inr (.inl 12), .inr (.inl r), .inl (w : Int)], [], (0, 0), n, K, I', J, R) Q := by
    intro w I' hP hw4 hor
    obtain ⟨p1, p2, p3, p4, p5, p6⟩ := hP
    have hT1 := ft_T_xk hr hT p1
    refine s_Form_readColumns_56 ⟨k0, am_nm_k p5 ?_⟩
    rintro _ rfl _ _
    refine ⟨fun h => s_Form_readColumns_77 ⟨Or.inl rfl, bad I' (p + 1 + w) ⟨w, hw4, p2, rfl, hor, Or.inl (by omega)⟩ p3 p4 p1⟩, fun h => ⟨(am_kk hB rfl), x_pass hB hT1 p4 p3 ⟨by decide, by decide⟩ (fun h59 hl => ⟨_, rfl, s_Form_readColumns_69 ⟨fun h => absurd h (by decide), fun _ => s_Form_readColumns_77 ⟨Or.inr rfl, ?_⟩⟩⟩) (fun h59 => ⟨_, rfl, s_Form_readColumns_69 ⟨fun _ => s_Form_readColumns_77 ⟨Or.inl rfl, bad I' (p + 1 + w) ⟨w, hw4, p2, rfl, hor, Or.inr h59⟩ p3 p4 p1⟩, fun h => absurd rfl h⟩⟩)⟩⟩
    have e : p + 2 + w = p + 1 + w + 1 := by omega
    exact ok _ w ⟨by omega, hw4, p2, h59⟩ (xk_ut p1 (by omega)) (by omega) (by rw [e]; exact am_u_kk) ((am_u_ne (by omega)).trans p5) (fun z hz => ⟨(am_u_ne (by omega)).trans (p6 z hz).1, (am_u_ne (by omega)).trans (p6 z hz).2⟩)
  have loop : ∀ (u w : Nat) (I' : Nat → Nat → Int), w + u = 4 → xk_P kd pl nu c r p w I I' → am_WP (d + 2) (91, 9, [.inr (.inl 12), .inr (.inl r), .inl (w : Int)], [], (0, 0), n, K, I', J, R) Q := by
    intro u
    induction u with
    | zero =>
      intro w I' hu hP
      exact s_Form_readColumns_9 ⟨fun _ => fin w I' hP (by omega) (Or.inl (by omega)), fun h => absurd h (by omega)⟩
    | succ u ih =>
      intro w I' hu hP
      have hP0 := hP
      obtain ⟨p1, p2, p3, p4, p5, p6⟩ := hP
      have hT1 := ft_T_xk hr hT p1
      refine s_Form_readColumns_9 ⟨fun h => absurd h (by omega), fun _ => ⟨(am_kk hB rfl), _, (am_rf hB rfl), (am_kk hB rfl), x_kind hB hT1 p4 p3 ⟨_, rfl, s_Form_readColumns_21 ⟨fun h => fin w I' hP0 (by omega) (Or.inr h), fun h => ⟨(am_kk hB rfl), _, (am_rf hB rfl), (am_kk hB rfl), ?_⟩⟩⟩⟩⟩
      have hl : p + 1 + w < c := ft_lt hT1 p3 (by rw [h]; decide) (by rw [h]; decide)
      refine x_number hB hT1 p4 p3 ⟨_, rfl, s_Form_readColumns_33 ⟨(am_kk hB rfl), _, (am_rf hB rfl), (am_kk hB rfl), x_at hB hT1 p4 p3 ⟨_, rfl, s_Form_readColumns_40 ⟨k0, x_addColumn hB hr p5 (by omega) ⟨rfl, s_Form_readColumns_43 ⟨(am_kk hB rfl), _, (am_rf hB rfl), (am_kk hB rfl), ?_⟩⟩⟩⟩⟩⟩
      have f2 : xk_fr r I (am_u (am_u (am_u I' (r + 27) w (nu (p + 1 + w))) (r + 28) w (pl (p + 1 + w))) r 2 ((w + 1 : Nat) : Int)) := xk_ut (xk_ut (xk_ut p1 (by omega)) (by omega)) (by omega)
      have c2 : am_u (am_u (am_u I' (r + 27) w (nu (p + 1 + w))) (r + 28) w (pl (p + 1 + w))) r 2 ((w + 1 : Nat) : Int) 13 7 = ((p + 1 + w : Nat) : Int) := by rw [am_u_ne (by omega), am_u_ne (by omega), am_u_ne (by omega), p4]
      refine x_adv hB (ft_T_xk hr hT f2) c2 hl ⟨rfl, s_Form_readColumns_50 (am_ar_i (by omega) (by omega) ?_)⟩
      refine ih (w + 1) _ (by omega) ⟨xk_ut f2 (by omega), fun z hz => ?_, hl, am_u_kk, ?_, fun z hz => ?_⟩
      · by_cases e : z = w
        · subst e; exact h
        · exact p2 z (by omega)
      · rw [am_u_ne (by omega)]; exact am_u_kk
      · by_cases e : z = w
        · subst e
          exact ⟨by rw [am_u_ne (by omega), am_u_ne (by omega), am_u_ne (by omega), am_u_kk], by rw [am_u_ne (by omega), am_u_ne (by omega), am_u_kk]⟩
        · have h5 := p6 z (by omega)
          exact ⟨by rw [am_u_ne (by omega), am_u_ne (by omega), am_u_ne (by omega), am_u_kn e]; exact h5.1, by rw [am_u_ne (by omega), am_u_ne (by omega), am_u_kn e, am_u_ne (by omega)]; exact h5.2⟩
  exact loop 4 0 I0 rfl P0
theorem x_addRow {x1 x2 : Int} {g : Bool} {ρ : Nat} {pp : Nat → Bool} (hB : am_B K R) (hr : r = 41 ∨ r = 71) (h3 : I r 3 = (ρ : Int)) (h12 : ρ < 12) (h4 : I r 4 = ((mk pp ρ : Nat) : Int))
    (post : Q none (n, K, am_u (am_u (am_u (am_u I (r + 25) ρ x1) (r + 29) ρ x2) r 4 ((mk (ps pp ρ (!g)) (ρ + 1) : Nat) : Int)) r 3 ((ρ + 1 : Nat) : Int), J, R)) : am_WP d (am_entry 109 [.inr (.inl r), .inl x1, .inl x2, .inl (xt_v g)] (n, K, I, J, R)) Q := by
  have k0 : K r = .inl 5 := am_kq (i := 0) hB hr (by decide) rfl
  have nb : am_nc ≤ r := by unfold am_nc; omega
  have hl := mk_lt pp ρ
  have hl2 : 2 ^ ρ ≤ 2 ^ 11 := Nat.pow_le_pow_right (by decide) (by omega)
  have em : mk (ps pp ρ (!g)) ρ = mk pp ρ := mk_cg ρ (fun q hq => ps_ne (by omega))
  refine e_Rules_addRow ⟨k0, am_nm_k h3 ?_⟩
  rintro _ rfl _ _
  refine ⟨fun h => absurd h (by omega), fun _ => ⟨k0, r + 25, am_rq (i := 0) hB hr rfl rfl, k0, am_nm_k h3 ?_⟩⟩
  rintro _ rfl _ _
  refine ⟨_, by omega, am_kq hB hr (by decide) rfl, ⟨by omega, by omega⟩, k0, r + 29, am_rq (i := 0) hB hr rfl rfl, k0, am_nm_k ((am_u_ne (by omega)).trans h3) ?_⟩
  rintro _ rfl _ _
  refine ⟨_, by omega, am_kq hB hr (by decide) rfl, ⟨by omega, by omega⟩, k0, am_nm_k ((am_u_ne (by omega)).trans ((am_u_ne (by omega)).trans h4)) ?_⟩
  rintro _ rfl _ _
  have g3 : am_u (am_u I (r + 25) ρ x1) (r + 29) ρ x2 r 3 = (ρ : Int) := (am_u_ne (by omega)).trans ((am_u_ne (by omega)).trans h3)
  refine ⟨fun hg => ⟨k0, am_nm_k g3 ?_⟩, fun hg => s_Rules_addRow_48 (am_nm_k (am_or0 (by omega)) ?_)⟩
  · have eg : g = false := by
      cases g
      · rfl
      · exact absurd hg (by decide)
    rintro _ rfl _ _ z hz _ _
    refine s_Rules_addRow_48 ?_
    rw [hz]
    refine am_nm_k (am_orm h12) ?_
    rintro _ rfl _ _
    refine ⟨⟨nb, k0⟩, k0, am_nm_k ((am_u_kn (by decide)).trans g3) ?_⟩
    rintro _ rfl _ _
    refine am_ar_i (by omega) (by omega) ⟨⟨nb, k0⟩, ?_⟩
    subst eg
    have e2 : mk (ps pp ρ (!false)) (ρ + 1) = mk pp ρ + 2 ^ ρ := by
      show mk (ps pp ρ true) ρ + (bif ps pp ρ true ρ then 2 ^ ρ else 0) = _
      rw [ps_eq, show mk (ps pp ρ true) ρ = mk pp ρ from em]; rfl
    rw [e2] at post
    exact post
  · have eg : g = true := by
      cases g
      · exact absurd rfl hg
      · rfl
    rintro _ rfl _ _
    refine ⟨⟨nb, k0⟩, k0, am_nm_k ((am_u_kn (by decide)).trans g3) ?_⟩
    rintro _ rfl _ _
    refine am_ar_i (by omega) (by omega) ⟨⟨nb, k0⟩, ?_⟩
    subst eg
    have e2 : mk (ps pp ρ (!true)) (ρ + 1) = mk pp ρ := by
      show mk (ps pp ρ false) ρ + (bif ps pp ρ false ρ then 2 ^ ρ else 0) = _
      rw [ps_eq, show mk (ps pp ρ false) ρ = mk pp ρ from em]; rfl
    rw [e2] at post
    exact post
def xw_ok (kd pl nu nm : Nat → Int) (c r i m ρ y : Nat) (pp : Nat → Bool) (I J I' J' : Nat → Nat → Int) (ws : List rw0) (j : Nat) (p' : Nat → Bool) : Prop := ls_sp (rw_sp kd pl nu nm) i ws j ∧ kd j = 0 ∧ (y = 12 → ws ≠ []) ∧ ws.length ≤ y ∧ m + rs_sz ws ≤ 60 ∧ j ≤ c ∧ I' 13 7 = (j : Int) ∧ I' r 3 = ((ρ + ws.length : Nat) : Int) ∧ I' (r + 15) 0 = ((m + rs_sz ws : Nat) : Int) ∧ I' r 4 = ((mk p' (ρ + ws.length) : Nat) : Int) ∧ xw_bits p' ρ ws ∧ (∀ q : Nat, q < ρ → p' q = pp q) ∧ xw_fr r ρ m I I' J J' ∧ xw_rows I' J' r ρ m ws
theorem x_rows (hB : am_B K R) (hr : r = 41 ∨ r = 71) : ∀ (y i m ρ : Nat) (I J : Nat → Nat → Int) (Q : am_Q) (pp : Nat → Bool), ft_T I J kd pl nu nm c → I 13 7 = (i : Int) → i ≤ c → I r 3 = (ρ : Int) → ρ + y = 12 → I (r + 15) 0 = (m : Int) → m ≤ 60 → I r 4 = ((mk pp ρ : Nat) : Int) →
    (∀ (I' J' : Nat → Nat → Int) (ws : List rw0) (j : Nat) (p' : Nat → Bool), xw_ok kd pl nu nm c r i m ρ y pp I J I' J' ws j p' → Q (some (.inl 1)) (n, K, I', J', R)) →
    (∀ (I' J' : Nat → Nat → Int) (k : Nat), rs_bd kd pl nu nm y i m k → k ≤ c → I' 13 7 = (k : Int) → xw_fr r ρ m I I' J J' → Q (some (.inl 0)) (n, K, I', J', R)) → am_WP (d + 32) (92, 2, [.inr (.inl 12), .inr (.inl r), .inl (ρ : Int), am_o, am_o, am_o], [], (0, 0), n, K, I, J, R) Q := by
  have k0 : K r = .inl 5 := am_kq (i := 0) hB hr (by decide) rfl
  have hb : ft_b (r + 15) := by unfold ft_b; omega
  have last : ∀ (y i m ρ : Nat) (I J : Nat → Nat → Int) (Q : am_Q) (pp : Nat → Bool), ft_T I J kd pl nu nm c → I 13 7 = (i : Int) → i ≤ c → I r 3 = (ρ : Int) → ρ + y = 12 → I (r + 15) 0 = (m : Int) → m ≤ 60 → I r 4 = ((mk pp ρ : Nat) : Int) → (y = 0 ∨ kd i = 0) →
    (∀ (I' J' : Nat → Nat → Int) (ws : List rw0) (j : Nat) (p' : Nat → Bool), xw_ok kd pl nu nm c r i m ρ y pp I J I' J' ws j p' → Q (some (.inl 1)) (n, K, I', J', R)) →
    (∀ (I' J' : Nat → Nat → Int) (k : Nat), rs_bd kd pl nu nm y i m k → k ≤ c → I' 13 7 = (k : Int) → xw_fr r ρ m I I' J J' → Q (some (.inl 0)) (n, K, I', J', R)) → am_WP (d + 32) (92, 90, [.inr (.inl 12), .inr (.inl r), .inl (ρ : Int), am_o, am_o, am_o], [], (0, 0), n, K, I, J, R) Q := by
    intro y i m ρ I J Q pp hT hi hc h3 hy hm hm2 h4 hor ok bad
    refine s_Form_readRows_90 ⟨k0, am_nm_k h3 ?_⟩
    rintro _ rfl _ _
    refine ⟨fun h => ?_, fun h => ⟨(am_kk hB rfl), _, (am_rf hB rfl), (am_kk hB rfl), x_kind hB hT hi hc ⟨_, rfl, s_Form_readRows_104 ⟨fun h0 => ?_, fun h0 => ?_⟩⟩⟩⟩
    · obtain ⟨y', rfl⟩ : ∃ y', y = y' + 1 := ⟨y - 1, by omega⟩
      exact s_Form_readRows_112 ⟨Or.inl rfl, bad I J i (Or.inl ⟨by omega, by omega, rfl⟩) hc hi xw_refl⟩
    · have y0 : y = 0 := by omega
      subst y0
      exact s_Form_readRows_112 ⟨Or.inl rfl, bad I J i ⟨h0, rfl⟩ hc hi xw_refl⟩
    · exact s_Form_readRows_112 ⟨Or.inr rfl, ok I J [] i pp ⟨rfl, h0, by omega, by simp, by simpa [rs_sz, ls_sz] using hm2, hc, hi, h3, hm, h4, trivial, fun _ _ => rfl, xw_refl, trivial⟩⟩
  intro y
  induction y with
  | zero =>
    intro i m ρ I J Q pp hT hi hc h3 hy hm hm2 h4 ok bad
    exact s_Form_readRows_2 ⟨fun _ => last 0 i m ρ I J Q pp hT hi hc h3 hy hm hm2 h4 (Or.inl rfl) ok bad, fun h => absurd h (by omega)⟩
  | succ y ih =>
    intro i m ρ I J Q pp hT hi hc h3 hy hm hm2 h4 ok bad
    refine s_Form_readRows_2 ⟨fun h => absurd h (by omega), fun _ => ⟨(am_kk hB rfl), _, (am_rf hB rfl), (am_kk hB rfl), x_kind hB hT hi hc ⟨_, rfl, s_Form_readRows_15 ⟨fun h0 => last (y + 1) i m ρ I J Q pp hT hi hc h3 hy hm hm2 h4 (Or.inr h0) ok bad, fun h0 => ⟨k0, r + 15, am_rq (i := 0) hB hr rfl rfl, (am_kk hB rfl), ?_⟩⟩⟩⟩⟩
    refine (xt_all 6 (Nat.le_refl _)).2 n K I J R _ kd pl nu nm c i (r + 15) m false (d + 31) hB hb hT hi hc hm hm2 (by omega) (fun I1 J1 ts e h1 => ⟨_, rfl, ?_⟩) (fun I1 J1 k h1 => ⟨_, rfl, ?_⟩)
    · obtain ⟨t1, t2, t3, t4, t5, t6, t7, t8, t9⟩ := h1
      have f1 : xw_fr r ρ m I I1 J J1 := xw_ft t8
      have hT1 := ft_T_xw hr hT f1
      have h31 : I1 r 3 = (ρ : Int) := (t8.1 r 3 (by omega) (by omega)).trans h3
      have h41 : I1 r 4 = ((mk pp ρ : Nat) : Int) := (t8.1 r 4 (by omega) (by omega)).trans h4
      refine s_Form_readRows_28 ⟨(am_kk hB rfl), _, (am_rf hB rfl), (am_kk hB rfl), x_at hB hT1 t6 t5 ⟨_, rfl, s_Form_readRows_36 ⟨fun h => absurd h (by omega), fun _ => ⟨(am_kk hB rfl), ?_⟩⟩⟩⟩
      have go : ∀ (g : Bool) (j : Nat) (I2 : Nat → Nat → Int), (g = true ∧ kd e = 9 ∧ j = e + 1 ∨ g = false ∧ kd e ≠ 9 ∧ j = e) → j ≤ c → xw_fr r ρ m I I2 J J1 → I2 13 7 = (j : Int) → (∀ a q : Nat, a ≠ 13 → I2 a q = I1 a q) → am_WP (d + 32) (92, 57, [.inr (.inl 12), .inr (.inl r), .inl (ρ : Int), .inl (m : Int), .inl (pl e), am_o], [.inl (xt_v g)], (0, 0), n, K, I2, J1, R) Q := by
        intro g j I2 hg hjc f2 hj tr
        have hT2 := ft_T_xw hr hT f2
        refine s_Form_readRows_57 ⟨fun h => absurd h (by omega), fun _ => ⟨(am_kk hB rfl), x_pass hB hT2 hj hjc ⟨by decide, by decide⟩ (fun h59 hl => ⟨_, rfl, s_Form_readRows_70 ⟨fun _ => ⟨k0, ?_⟩, fun h => absurd h (by decide)⟩⟩) (fun h59 => ⟨_, rfl, s_Form_readRows_70 ⟨fun h => absurd rfl h, fun _ => ⟨Or.inl rfl, bad I2 J1 j (Or.inr (Or.inl ⟨h0, Or.inr ⟨ts, e, t1, t2, t4, t3, ?_⟩⟩)) hjc hj f2⟩⟩⟩)⟩⟩
        · refine x_addRow (pp := pp) hB hr ((am_u_ne (by omega)).trans ((tr r 3 (by omega)).trans h31)) (by omega) ((am_u_ne (by omega)).trans ((tr r 4 (by omega)).trans h41)) ⟨rfl, s_Form_readRows_84 (am_ar_i (by omega) (by omega) ?_)⟩
          have f3 : xw_fr r ρ m I (am_u I2 13 7 ((j + 1 : Nat) : Int)) J J1 := xw_ut f2 (by omega)
          have tr3 : ∀ a q : Nat, a ≠ 13 → am_u I2 13 7 ((j + 1 : Nat) : Int) a q = I1 a q := fun a q h => (am_u_ne h).trans (tr a q h)
          have cu3 : am_u I2 13 7 ((j + 1 : Nat) : Int) 13 7 = ((j + 1 : Nat) : Int) := am_u_kk
          generalize am_u I2 13 7 ((j + 1 : Nat) : Int) = I3 at f3 tr3 cu3 ⊢
          have f4 : xw_fr r ρ m I (am_u (am_u (am_u (am_u I3 (r + 25) ρ (m : Int)) (r + 29) ρ (pl e)) r 4 ((mk (ps pp ρ (!g)) (ρ + 1) : Nat) : Int)) r 3 ((ρ + 1 : Nat) : Int)) J J1 := xw_ut (xw_ut (xw_ut (xw_ut f3 (by omega)) (by omega)) (by omega)) (by omega)
          have q1 : am_u (am_u (am_u (am_u I3 (r + 25) ρ (m : Int)) (r + 29) ρ (pl e)) r 4 ((mk (ps pp ρ (!g)) (ρ + 1) : Nat) : Int)) r 3 ((ρ + 1 : Nat) : Int) (r + 25) ρ = (m : Int) := by rw [am_u_ne (by omega), am_u_ne (by omega), am_u_ne (by omega), am_u_kk]
          have q2 : am_u (am_u (am_u (am_u I3 (r + 25) ρ (m : Int)) (r + 29) ρ (pl e)) r 4 ((mk (ps pp ρ (!g)) (ρ + 1) : Nat) : Int)) r 3 ((ρ + 1 : Nat) : Int) (r + 29) ρ = pl e := by rw [am_u_ne (by omega), am_u_ne (by omega), am_u_kk]
          have q3 : am_u (am_u (am_u (am_u I3 (r + 25) ρ (m : Int)) (r + 29) ρ (pl e)) r 4 ((mk (ps pp ρ (!g)) (ρ + 1) : Nat) : Int)) r 3 ((ρ + 1 : Nat) : Int) r 3 = ((ρ + 1 : Nat) : Int) := am_u_kk
          have q4 : am_u (am_u (am_u (am_u I3 (r + 25) ρ (m : Int)) (r + 29) ρ (pl e)) r 4 ((mk (ps pp ρ (!g)) (ρ + 1) : Nat) : Int)) r 3 ((ρ + 1 : Nat) : Int) r 4 = ((mk (ps pp ρ (!g)) (ρ + 1) : Nat) : Int) := by rw [am_u_kn (by decide), am_u_kk]
          have q5 : am_u (am_u (am_u (am_u I3 (r + 25) ρ (m : Int)) (r + 29) ρ (pl e)) r 4 ((mk (ps pp ρ (!g)) (ρ + 1) : Nat) : Int)) r 3 ((ρ + 1 : Nat) : Int) 13 7 = ((j + 1 : Nat) : Int) := by rw [am_u_ne (by omega), am_u_ne (by omega), am_u_ne (by omega), am_u_ne (by omega), cu3]
          have q6 : ∀ a q : Nat, r + 15 ≤ a → a ≤ r + 24 → am_u (am_u (am_u (am_u I3 (r + 25) ρ (m : Int)) (r + 29) ρ (pl e)) r 4 ((mk (ps pp ρ (!g)) (ρ + 1) : Nat) : Int)) r 3 ((ρ + 1 : Nat) : Int) a q = I1 a q := by
            intro a q ha hb
            rw [am_u_ne (by omega), am_u_ne (by omega), am_u_ne (by omega), am_u_ne (by omega), tr3 a q (by omega)]
          generalize am_u (am_u (am_u (am_u I3 (r + 25) ρ (m : Int)) (r + 29) ρ (pl e)) r 4 ((mk (ps pp ρ (!g)) (ρ + 1) : Nat) : Int)) r 3 ((ρ + 1 : Nat) : Int) = I4 at f4 q1 q2 q3 q4 q5 q6 ⊢
          have hT4 := ft_T_xw hr hT f4
          have ew : rw_sz (ts, g, pl e) = ls_sz (tm_sz 6) ts := rfl
          have sp : rw_sp kd pl nu nm i (ts, g, pl e) (j + 1) := by
            refine ⟨t1, e, t2, rfl, ?_⟩
            rcases hg with ⟨a1, a2, a3⟩ | ⟨a1, a2, a3⟩
            · subst a3; exact Or.inl ⟨a1, a2, h59, rfl⟩
            · subst a3; exact Or.inr ⟨a1, h59, rfl⟩
          have gg := ih (j + 1) (m + rw_sz (ts, g, pl e)) (ρ + 1) I4 J1 Q (ps pp ρ (!g)) hT4 q5 hl q3 (by omega) ((q6 (r + 15) 0 (by omega) (by omega)).trans t7) t4 q4 (fun I5 J5 ws j5 p' h5 => ?_) (fun I5 J5 k hk hkc hki hf => ?_)
          · exact am_WP.forget gg _ (am_le_eq (am_le_eq (am_le_eq (am_le_o (am_le_o (am_le_o am_le_nil))))))
          · obtain ⟨b1, b2, b3, b4, b5, b6, b7, b8, b9, b10, b11, b12, b13, b14⟩ := h5
            have es : rs_sz ((ts, g, pl e) :: ws) = rw_sz (ts, g, pl e) + rs_sz ws := rfl
            have el : ((ts, g, pl e) :: ws).length = ws.length + 1 := rfl
            have pz : 0 < rw_sz (ts, g, pl e) := by
              cases ts with
              | nil => exact absurd rfl t1
              | cons t ts =>
                have := tm_sz_pos 6 t
                show 0 < tm_sz 6 t + ls_sz (tm_sz 6) ts
                omega
            have e1 : ρ + 1 + ws.length = ρ + ((ts, g, pl e) :: ws).length := by rw [el]; omega
            refine ok I5 J5 ((ts, g, pl e) :: ws) j5 p' ⟨⟨j + 1, sp, b1⟩, b2, fun _ => by simp, by rw [el]; omega, by rw [es]; omega, b6, b7, by rw [b8, e1], by rw [b9, es, Nat.add_assoc], by rw [b10, e1], ⟨?_, b11⟩, fun q hq => ?_, xw_trans f4 b13 (by omega) (by omega), ⟨?_, ?_, ?_, b14⟩⟩
            · rw [b12 ρ (by omega), ps_eq]
            · rw [b12 q (by omega), ps_ne (by omega)]
            · rw [b13.1 _ _ (by omega) (by omega) (by omega) (by omega) (by omega), q1]
            · rw [b13.1 _ _ (by omega) (by omega) (by omega) (by omega) (by omega), q2]
            · refine ft_HL_frame (I := I1) (J := J1) t9 (fun x q a1 a2 a3 a4 => ?_) (fun q a3 a4 => ?_)
              · have a5 : q < m + rw_sz (ts, g, pl e) := a4
                rw [b13.1 x q (by omega) (by omega) (by omega) (by omega) (by omega)]
                exact q6 x q (by omega) (by omega)
              · have a5 : q < m + rw_sz (ts, g, pl e) := a4
                exact b13.2 _ _ (by omega)
          · exact bad I5 J5 k (Or.inr (Or.inr ⟨h0, (ts, g, pl e), j + 1, sp, t4, hk⟩)) hkc hki (xw_trans f4 hf (by omega) (by omega))
        · rcases hg with ⟨a1, a2, a3⟩ | ⟨a1, a2, a3⟩
          · subst a3; exact Or.inr ⟨a2, h59, rfl⟩
          · subst a3; exact Or.inl ⟨a2, h59, rfl⟩
      exact x_pass hB hT1 t6 t5 ⟨by decide, by decide⟩ (fun h9 hl => ⟨_, rfl, s_Form_readRows_49 ⟨fun h => absurd h (by decide), fun _ => go true (e + 1) _ (Or.inl ⟨rfl, h9, rfl⟩) hl (xw_ut f1 (by omega)) am_u_kk (fun a q h => am_u_ne h)⟩⟩) (fun h9 => ⟨_, rfl, s_Form_readRows_49 ⟨fun _ => s_Form_readRows_56 (go false e I1 (Or.inr ⟨rfl, h9, rfl⟩) t5 f1 t6 (fun _ _ _ => rfl)), fun h => absurd rfl h⟩⟩)
    · obtain ⟨b1, b2, b3, b4⟩ := h1
      have f1 : xw_fr r ρ m I I1 J J1 := xw_ft b4
      refine s_Form_readRows_28 ⟨(am_kk hB rfl), _, (am_rf hB rfl), (am_kk hB rfl), x_at hB (ft_T_xw hr hT f1) b3 b2 ⟨_, rfl, s_Form_readRows_36 ⟨fun _ => s_Form_readRows_56 (s_Form_readRows_57 ⟨fun _ => ⟨Or.inl rfl, bad I1 J1 k (Or.inr (Or.inl ⟨h0, Or.inl b1⟩)) b2 b3 f1⟩, fun h => absurd rfl h⟩), fun h => absurd rfl h⟩⟩⟩
end XR
