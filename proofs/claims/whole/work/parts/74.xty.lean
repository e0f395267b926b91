/-! THE CLASS READS TYPES -/
def xc_fr (r T C : Nat) (I I' J J' : Nat → Nat → Int) : Prop := xy_fr r T C I I' J J' ∧ I' (r + 9) T = I (r + 9) T ∧ I' (r + 10) T = I (r + 10) T ∧ I' (r + 2) T = I (r + 2) T ∧ I' (r + 3) T = I (r + 3) T
theorem xc_refl {r T C : Nat} {I J : Nat → Nat → Int} : xc_fr r T C I I J J := ⟨xy_refl, rfl, rfl, rfl, rfl⟩
theorem xc_trans {r T C C' : Nat} {I I1 I2 J J1 J2 : Nat → Nat → Int} (h : xc_fr r T C I I1 J J1) (h' : xc_fr r T C' I1 I2 J1 J2) (hC : C ≤ C') : xc_fr r T C I I2 J J2 :=
  ⟨xy_trans h.1 h'.1 (Nat.le_refl _) hC, h'.2.1.trans h.2.1, h'.2.2.1.trans h.2.2.1, h'.2.2.2.1.trans h.2.2.2.1, h'.2.2.2.2.trans h.2.2.2.2⟩
theorem xy_ut {r T C a k : Nat} {I I1 J J1 : Nat → Nat → Int} {v : Int} (h0 : xy_fr r T C I I1 J J1) (h : (a = 13 ∧ k = 7) ∨ (a = r + 1 ∧ (k = 0 ∨ k = 1)) ∨ ((a = r + 2 ∨ a = r + 3 ∨ a = r + 4 ∨ a = r + 9 ∨ a = r + 10) ∧ T ≤ k) ∨ ((a = r + 5 ∨ a = r + 6 ∨ a = r + 11) ∧ C ≤ k) ∨ ((a = r + 12 ∨ a = r + 13) ∧ 3 * C ≤ k)) : xy_fr r T C I (am_u I1 a k v) J J1 :=
  xy_trans h0 (xy_up h) (Nat.le_refl _) (Nat.le_refl _)
theorem xc_ut {r T C a k : Nat} {I I1 J J1 : Nat → Nat → Int} {v : Int} (hr : r = 41 ∨ r = 71) (h0 : xc_fr r T C I I1 J J1) (h : (a = 13 ∧ k = 7) ∨ (a = r + 1 ∧ (k = 0 ∨ k = 1)) ∨ (a = r + 4 ∧ T ≤ k) ∨ ((a = r + 5 ∨ a = r + 6 ∨ a = r + 11) ∧ C ≤ k) ∨ ((a = r + 12 ∨ a = r + 13) ∧ 3 * C ≤ k)) : xc_fr r T C I (am_u I1 a k v) J J1 :=
  ⟨xy_ut h0.1 (by omega), (am_u_ne (by omega)).trans h0.2.1, (am_u_ne (by omega)).trans h0.2.2.1, (am_u_ne (by omega)).trans h0.2.2.2.1, (am_u_ne (by omega)).trans h0.2.2.2.2⟩
theorem xy_J2 {r T C k : Nat} {I I1 J J1 : Nat → Nat → Int} {v : Int} (h0 : xy_fr r T C I I1 J J1) (h : C ≤ k) : xy_fr r T C I I1 J (am_u J1 (r + 7) k v) :=
  xy_trans h0 (xy_J h) (Nat.le_refl _) (Nat.le_refl _)
theorem ft_T_xy {r T C c : Nat} {I I' J J' : Nat → Nat → Int} {kd pl nu nm : Nat → Int} (hr : r = 41 ∨ r = 71) (h : ft_T I J kd pl nu nm c) (hf : xy_fr r T C I I' J J') : ft_T I' J' kd pl nu nm c := by
  obtain ⟨h1, h2, h3, h4, h5, h6⟩ := h
  refine ⟨?_, ?_, ?_, ?_, ?_, h6⟩
  · rw [← h1]; funext j; exact hf.1 15 j (by omega) (by omega) (by omega) (by omega) (by omega)
  · rw [← h2]; funext j; exact hf.1 16 j (by omega) (by omega) (by omega) (by omega) (by omega)
  · rw [← h3]; funext j; exact hf.1 17 j (by omega) (by omega) (by omega) (by omega) (by omega)
  · rw [← h4]; funext j; exact hf.2 18 j (by omega)
  · rw [hf.1 13 6 (by omega) (by omega) (by omega) (by omega) (by omega)]; exact h5
section XY
variable {d n : Nat} {K : Nat → am_K} {I J : Nat → Nat → Int} {R : Nat → Nat → Option Nat} {Q : am_Q} {kd pl nu nm : Nat → Int} {c q r T C w : Nat}
theorem x_addType {x1 x2 : Int} {nw : Bool} (hB : am_B K R) (hr : r = 41 ∨ r = 71) (hT0 : I (r + 1) 0 = (T : Int)) (hC0 : I (r + 1) 1 = (C : Int)) (hT6 : T < 6)
    (post : ∀ I' : Nat → Nat → Int, xy_fr r T C I I' J J → I' 13 7 = I 13 7 → I' (r + 1) 0 = ((T + 1 : Nat) : Int) → I' (r + 1) 1 = (C : Int) → I' (r + 9) T = x1 → I' (r + 10) T = x2 → I' (r + 2) T = xt_v nw → I' (r + 3) T = (C : Int) → I' (r + 4) T = 0 → Q none (n, K, I', J, R)) : am_WP d (am_entry 164 [.inr (.inl (r + 1)), .inl x1, .inl x2, .inl (xt_v nw)] (n, K, I, J, R)) Q := by
  have k0 : K (r + 1) = .inl 10 := am_kq (i := 1) hB hr (by decide) rfl
  have nb : am_nc ≤ r + 1 := by unfold am_nc; omega
  have v01 : xt_v nw = 0 ∨ xt_v nw = 1 := by cases nw <;> simp [xt_v]
  refine e_Types_addType ⟨k0, am_nm_k hT0 ?_⟩
  rintro _ rfl _ _
  refine ⟨fun h => absurd h (by omega), fun _ => ⟨k0, r + 9, am_rq (i := 1) hB hr rfl rfl, k0, am_nm_k hT0 ?_⟩⟩
  rintro _ rfl _ _
  refine ⟨_, by omega, am_kq hB hr (by decide) rfl, ⟨by omega, by omega⟩, k0, r + 10, am_rq (i := 1) hB hr rfl rfl, k0, am_nm_k ((am_u_ne (by omega)).trans hT0) ?_⟩
  rintro _ rfl _ _
  refine ⟨_, by omega, am_kq hB hr (by decide) rfl, ⟨by omega, by omega⟩, k0, r + 2, am_rq (i := 1) hB hr rfl rfl, k0, am_nm_k ((am_u_ne (by omega)).trans ((am_u_ne (by omega)).trans hT0)) ?_⟩
  rintro _ rfl _ _
  refine ⟨_, by omega, Or.inl ⟨am_kq hB hr (by decide) rfl, v01⟩, ⟨by omega, by omega⟩, k0, r + 3, am_rq (i := 1) hB hr rfl rfl, k0, ?_⟩
  simp only [Int.toNat_natCast]
  have f1 : xy_fr r T C I (am_u (am_u (am_u I (r + 9) T x1) (r + 10) T x2) (r + 2) T (xt_v nw)) J J := xy_ut (xy_ut (xy_ut xy_refl (by omega)) (by omega)) (by omega)
  have g1 : am_u (am_u (am_u I (r + 9) T x1) (r + 10) T x2) (r + 2) T (xt_v nw) (r + 9) T = x1 := by rw [am_u_ne (by omega), am_u_ne (by omega), am_u_kk]
  have g2 : am_u (am_u (am_u I (r + 9) T x1) (r + 10) T x2) (r + 2) T (xt_v nw) (r + 10) T = x2 := by rw [am_u_ne (by omega), am_u_kk]
  have g3 : am_u (am_u (am_u I (r + 9) T x1) (r + 10) T x2) (r + 2) T (xt_v nw) (r + 2) T = xt_v nw := am_u_kk
  have g4 : am_u (am_u (am_u I (r + 9) T x1) (r + 10) T x2) (r + 2) T (xt_v nw) (r + 1) 0 = (T : Int) := by rw [am_u_ne (by omega), am_u_ne (by omega), am_u_ne (by omega), hT0]
  have g5 : am_u (am_u (am_u I (r + 9) T x1) (r + 10) T x2) (r + 2) T (xt_v nw) (r + 1) 1 = (C : Int) := by rw [am_u_ne (by omega), am_u_ne (by omega), am_u_ne (by omega), hC0]
  have g6 : am_u (am_u (am_u I (r + 9) T x1) (r + 10) T x2) (r + 2) T (xt_v nw) 13 7 = I 13 7 := by rw [am_u_ne (by omega), am_u_ne (by omega), am_u_ne (by omega)]
  generalize am_u (am_u (am_u I (r + 9) T x1) (r + 10) T x2) (r + 2) T (xt_v nw) = I1 at *
  refine am_nm_k g4 ?_
  rintro _ rfl _ _
  refine ⟨k0, am_nm_k g5 ?_⟩
  rintro _ rfl _ _
  refine ⟨_, by omega, am_kq hB hr (by decide) rfl, ⟨by omega, by omega⟩, k0, r + 4, am_rq (i := 1) hB hr rfl rfl, k0, am_nm_k ((am_u_ne (by omega)).trans g4) ?_⟩
  rintro _ rfl _ _
  refine ⟨_, by omega, am_kq hB hr (by decide) rfl, ⟨by omega, by omega⟩, k0, am_nm_k ((am_u_ne (by omega)).trans ((am_u_ne (by omega)).trans g4)) ?_⟩
  rintro _ rfl _ _
  refine am_ar_i (by omega) (by omega) ⟨⟨nb, k0⟩, ?_⟩
  simp only [Int.toNat_natCast]
  refine post _ (xy_ut (xy_ut (xy_ut f1 (by omega)) (by omega)) (by omega)) ?_ am_u_kk ?_ ?_ ?_ ?_ ?_ ?_
  · rw [am_u_ne (by omega), am_u_ne (by omega), am_u_ne (by omega), g6]
  · rw [am_u_kn (by decide), am_u_ne (by omega), am_u_ne (by omega), g5]
  · rw [am_u_ne (by omega), am_u_ne (by omega), am_u_ne (by omega), g1]
  · rw [am_u_ne (by omega), am_u_ne (by omega), am_u_ne (by omega), g2]
  · rw [am_u_ne (by omega), am_u_ne (by omega), am_u_ne (by omega), g3]
  · rw [am_u_ne (by omega), am_u_ne (by omega), am_u_kk]
  · rw [am_u_ne (by omega), am_u_kk]
theorem x_addCon {x : Int} {y : Int} (hB : am_B K R) (hr : r = 41 ∨ r = 71) (hT0 : I (r + 1) 0 = ((T + 1 : Nat) : Int)) (hC0 : I (r + 1) 1 = (C : Int)) (hT6 : T < 6) (hC6 : C < 36) (hw : I (r + 4) T = (w : Int)) (hw2 : w < 36)
    (post : ∀ I' J' : Nat → Nat → Int, xc_fr r T C I I' J J' → I' 13 7 = I 13 7 → I' (r + 1) 0 = ((T + 1 : Nat) : Int) → I' (r + 1) 1 = ((C + 1 : Nat) : Int) → I' (r + 4) T = ((w + 1 : Nat) : Int) → I' (r + 5) C = (T : Int) → I' (r + 6) C = 0 → J' (r + 7) C = y → I' (r + 11) C = x → Q none (n, K, I', J', R)) : am_WP d (am_entry 165 [.inr (.inl (r + 1)), .inr (.inr (some y)), .inl x] (n, K, I, J, R)) Q := by
  have k0 : K (r + 1) = .inl 10 := am_kq (i := 1) hB hr (by decide) rfl
  have nb : am_nc ≤ r + 1 := by unfold am_nc; omega
  refine e_Types_addCon ⟨k0, am_nm_k hT0 ?_⟩
  rintro _ rfl _ _
  refine ⟨fun h => absurd h (by omega), fun _ => ⟨k0, am_nm_k hC0 ?_⟩⟩
  rintro _ rfl _ _
  refine ⟨fun h => absurd h (by omega), fun _ => ⟨k0, r + 7, am_rq (i := 1) hB hr rfl rfl, k0, am_nm_k hC0 ?_⟩⟩
  rintro _ rfl _ _
  refine ⟨_, by omega, am_kq hB hr (by decide) rfl, ⟨by omega, by omega⟩, k0, r + 11, am_rq (i := 1) hB hr rfl rfl, k0, am_nm_k hC0 ?_⟩
  rintro _ rfl _ _
  refine ⟨_, by omega, am_kq hB hr (by decide) rfl, ⟨by omega, by omega⟩, k0, r + 5, am_rq (i := 1) hB hr rfl rfl, k0, am_nm_k ((am_u_ne (by omega)).trans hC0) ?_⟩
  rintro _ rfl _ _
  refine ⟨k0, am_nm_k ((am_u_ne (by omega)).trans hT0) ?_⟩
  rintro _ rfl _ _
  refine am_ar_i (by omega) (by omega) ⟨_, by omega, am_kq hB hr (by decide) rfl, ⟨by omega, by omega⟩, k0, r + 6, am_rq (i := 1) hB hr rfl rfl, k0, am_nm_k ((am_u_ne (by omega)).trans ((am_u_ne (by omega)).trans hC0)) ?_⟩
  rintro _ rfl _ _
  refine ⟨_, by omega, am_kq hB hr (by decide) rfl, ⟨by omega, by omega⟩, k0, r + 4, am_rq (i := 1) hB hr rfl rfl, k0, ?_⟩
  simp only [Int.toNat_natCast]
  have eT : ((T + 1 : Nat) : Int) - 1 = (T : Int) := by omega
  rw [eT]
  have f1 : xc_fr r T C I (am_u (am_u (am_u I (r + 11) C x) (r + 5) C (T : Int)) (r + 6) C 0) J J := xc_ut hr (xc_ut hr (xc_ut hr xc_refl (by omega)) (by omega)) (by omega)
  have g1 : am_u (am_u (am_u I (r + 11) C x) (r + 5) C (T : Int)) (r + 6) C 0 (r + 11) C = x := by rw [am_u_ne (by omega), am_u_ne (by omega), am_u_kk]
  have g2 : am_u (am_u (am_u I (r + 11) C x) (r + 5) C (T : Int)) (r + 6) C 0 (r + 5) C = (T : Int) := by rw [am_u_ne (by omega), am_u_kk]
  have g3 : am_u (am_u (am_u I (r + 11) C x) (r + 5) C (T : Int)) (r + 6) C 0 (r + 6) C = 0 := am_u_kk
  have g4 : am_u (am_u (am_u I (r + 11) C x) (r + 5) C (T : Int)) (r + 6) C 0 (r + 1) 0 = ((T + 1 : Nat) : Int) := by rw [am_u_ne (by omega), am_u_ne (by omega), am_u_ne (by omega), hT0]
  have g5 : am_u (am_u (am_u I (r + 11) C x) (r + 5) C (T : Int)) (r + 6) C 0 (r + 1) 1 = (C : Int) := by rw [am_u_ne (by omega), am_u_ne (by omega), am_u_ne (by omega), hC0]
  have g6 : am_u (am_u (am_u I (r + 11) C x) (r + 5) C (T : Int)) (r + 6) C 0 13 7 = I 13 7 := by rw [am_u_ne (by omega), am_u_ne (by omega), am_u_ne (by omega)]
  have g7 : am_u (am_u (am_u I (r + 11) C x) (r + 5) C (T : Int)) (r + 6) C 0 (r + 4) T = (w : Int) := by rw [am_u_ne (by omega), am_u_ne (by omega), am_u_ne (by omega), hw]
  generalize am_u (am_u (am_u I (r + 11) C x) (r + 5) C (T : Int)) (r + 6) C 0 = I1 at *
  refine am_nm_k g4 ?_
  rintro _ rfl _ _
  refine am_ar_i (by omega) (by omega) ?_
  rw [eT]
  refine ⟨_, am_kq hB hr (by decide) rfl, ⟨by omega, by omega⟩, am_nm_k g7 ?_⟩
  rintro _ rfl _ _
  refine am_ar_i (by omega) (by omega) ⟨_, by omega, am_kq hB hr (by decide) rfl, ⟨by omega, by omega⟩, k0, am_nm_k ((am_u_ne (by omega)).trans g5) ?_⟩
  rintro _ rfl _ _
  refine am_ar_i (by omega) (by omega) ⟨⟨nb, k0⟩, ?_⟩
  simp only [Int.toNat_natCast]
  have f2 := xc_ut (v := ((C : Int) + 1)) hr (xc_ut (v := ((w : Int) + 1)) (a := r + 4) (k := T) hr f1 (by omega)) (a := r + 1) (k := 1) (by omega)
  refine post _ _ ⟨xy_J2 f2.1 (Nat.le_refl _), f2.2⟩ ?_ ?_ am_u_kk ?_ ?_ ?_ am_u_kk ?_
  · rw [am_u_ne (by omega), am_u_ne (by omega), g6]
  · rw [am_u_kn (by decide), am_u_ne (by omega), g4]
  · rw [am_u_ne (by omega)]; exact am_u_kk
  · rw [am_u_ne (by omega), am_u_ne (by omega), g2]
  · rw [am_u_ne (by omega), am_u_ne (by omega), g3]
  · rw [am_u_ne (by omega), am_u_ne (by omega), g1]
theorem x_addArg {x y : Int} {z : Nat} (hB : am_B K R) (hr : r = 41 ∨ r = 71) (hC0 : I (r + 1) 1 = ((C + 1 : Nat) : Int)) (hC6 : C < 36) (hz : I (r + 6) C = (z : Int)) (hz3 : z < 3)
    (post : Q none (n, K, am_u (am_u (am_u I (r + 12) (3 * C + z) x) (r + 13) (3 * C + z) y) (r + 6) C ((z + 1 : Nat) : Int), J, R)) : am_WP d (am_entry 166 [.inr (.inl (r + 1)), .inl x, .inl y] (n, K, I, J, R)) Q := by
  have k0 : K (r + 1) = .inl 10 := am_kq (i := 1) hB hr (by decide) rfl
  have eC : ((C + 1 : Nat) : Int) - 1 = (C : Int) := by omega
  have e3 : (C : Int) * 3 + (z : Int) = ((3 * C + z : Nat) : Int) := by omega
  refine e_Types_addArg ⟨k0, am_nm_k hC0 ?_⟩
  rintro _ rfl _ _
  refine am_ar_i (by omega) (by omega) ?_
  rw [eC]
  refine ⟨fun h => absurd h (by omega), fun _ => ⟨k0, r + 6, am_rq (i := 1) hB hr rfl rfl, _, am_kq hB hr (by decide) rfl, ⟨by omega, by omega⟩, am_nm_k hz ?_⟩⟩
  rintro _ rfl _ _
  refine ⟨fun h => absurd h (by omega), fun _ => am_ar_i (by omega) (by omega) ⟨k0, r + 6, am_rq (i := 1) hB hr rfl rfl, _, am_kq hB hr (by decide) rfl, ⟨by omega, by omega⟩, am_nm_k hz ?_⟩⟩
  rintro _ rfl _ _
  refine am_ar_i (by omega) (by omega) ?_
  rw [e3]
  refine ⟨k0, r + 12, am_rq (i := 1) hB hr rfl rfl, _, by unfold am_nc; omega, am_kq hB hr (by decide) rfl, ⟨by omega, by omega⟩, k0, r + 13, am_rq (i := 1) hB hr rfl rfl, _, by unfold am_nc; omega, am_kq hB hr (by decide) rfl, ⟨by omega, by omega⟩, k0, r + 6, am_rq (i := 1) hB hr rfl rfl, _, am_kq hB hr (by decide) rfl, ⟨by omega, by omega⟩, am_nm_k ((am_u_ne (by omega)).trans ((am_u_ne (by omega)).trans hz)) ?_⟩
  rintro _ rfl _ _
  exact am_ar_i (by omega) (by omega) ⟨_, by unfold am_nc; omega, am_kq hB hr (by decide) rfl, ⟨by omega, by omega⟩, post⟩
/-- a constructor that has been read up to its a-th argument -/
def xc_P (kd pl nu nm : Nat → Int) (c r T C w q a : Nat) (I J I' J' : Nat → Nat → Int) : Prop := xc_fr r T C I I' J J' ∧ kd q = 3 ∧ (∀ z : Nat, z < a → kd (q + 1 + z) = 2) ∧ q + 1 + a ≤ c ∧ I' 13 7 = ((q + 1 + a : Nat) : Int) ∧ I' (r + 1) 0 = ((T + 1 : Nat) : Int) ∧ I' (r + 1) 1 = ((C + 1 : Nat) : Int) ∧ I' (r + 4) T = ((w + 1 : Nat) : Int) ∧ I' (r + 5) C = (T : Int) ∧ I' (r + 6) C = (a : Int) ∧ J' (r + 7) C = nm q ∧ I' (r + 11) C = pl q ∧ ∀ z : Nat, z < a → I' (r + 12) (3 * C + z) = nu (q + 1 + z) ∧ I' (r + 13) (3 * C + z) = pl (q + 1 + z)
theorem x_readCon {nw : Bool} (hB : am_B K R) (hr : r = 41 ∨ r = 71) (hT : ft_T I J kd pl nu nm c) (hi : I 13 7 = (q : Int)) (hc : q ≤ c) (hT0 : I (r + 1) 0 = ((T + 1 : Nat) : Int)) (hC0 : I (r + 1) 1 = (C : Int)) (hT6 : T < 6) (hC6 : C < 36) (hw : I (r + 4) T = (w : Int)) (hw2 : w < 36)
    (ok : ∀ (I' J' : Nat → Nat → Int) (a : Nat), xc_P kd pl nu nm c r T C w q a I J I' J' → a ≤ 3 → (nw = true → a = 1) → (nw = false → a = 3 ∨ kd (q + 1 + a) ≠ 2) → Q (some (.inl 1)) (n, K, I', J', R))
    (bad : ∀ (I' J' : Nat → Nat → Int) (k : Nat), (kd q ≠ 3 ∧ k = q ∨ nw = true ∧ kd q = 3 ∧ kd (q + 1) ≠ 2 ∧ k = q + 1) → k ≤ c → I' 13 7 = (k : Int) → xc_fr r T C I I' J J' → Q (some (.inl 0)) (n, K, I', J', R)) : am_WP (d + 1) (am_entry 90 [.inr (.inl 12), .inr (.inl (r + 1)), .inl (xt_v nw)] (n, K, I, J, R)) Q := by
  have k0 : K (r + 1) = .inl 10 := am_kq (i := 1) hB hr (by decide) rfl
  refine e_Form_readCon ⟨(am_kk hB rfl), _, (am_rf hB rfl), (am_kk hB rfl), x_kind hB hT hi hc ⟨_, rfl, s_Form_readCon_7 ⟨fun h => ⟨(am_kk hB rfl), _, (am_rf hB rfl), (am_kk hB rfl), ?_⟩, fun h => ⟨Or.inl rfl, bad I J q (Or.inl ⟨h, rfl⟩) hc hi xc_refl⟩⟩⟩⟩
  have hlt : q < c := ft_lt hT hc (by rw [h]; decide) (by rw [h]; decide)
  refine x_name hB hT hi hc ⟨_, rfl, s_Form_readCon_21 ⟨(am_kk hB rfl), _, (am_rf hB rfl), (am_kk hB rfl), x_at hB hT hi hc ⟨_, rfl, s_Form_readCon_28 ⟨k0, x_addCon hB hr hT0 hC0 hT6 hC6 hw hw2 ?_⟩⟩⟩⟩
  intro I1 J1 f1 g0 g1 g2 g3 g4 g5 g6 g7
  have hT1 := ft_T_xy hr hT f1.1
  refine ⟨rfl, s_Form_readCon_31 ⟨(am_kk hB rfl), _, (am_rf hB rfl), (am_kk hB rfl), x_adv hB hT1 (g0.trans hi) hlt ⟨rfl, ?_⟩⟩⟩
  have P0 : xc_P kd pl nu nm c r T C w q 0 I J (am_u I1 13 7 ((q + 1 : Nat) : Int)) J1 := ⟨xc_ut hr f1 (by omega), h, fun z hz => absurd hz (by omega), hlt, am_u_kk, (am_u_ne (by omega)).trans g1, (am_u_ne (by omega)).trans g2, (am_u_ne (by omega)).trans g3, (am_u_ne (by omega)).trans g4, (am_u_ne (by omega)).trans g5, g6, (am_u_ne (by omega)).trans g7, fun z hz => absurd hz (by omega)⟩
  generalize am_u I1 13 7 ((q + 1 : Nat) : Int) = I2 at P0 ⊢
  have mx : ∃ m : Nat, (m : Int) = (bif nw then 1 else 3) ∧ (nw = true → m = 1) ∧ (nw = false → m = 3) := by
    cases nw
    · exact ⟨3, rfl, by decide, fun _ => rfl⟩
    · exact ⟨1, rfl, fun _ => rfl, by decide⟩
  obtain ⟨m, m1, m2, m3⟩ := mx
  have m13 : m = 1 ∧ nw = true ∨ m = 3 ∧ nw = false := by cases nw <;> simp_all
  have fin : ∀ (a : Nat) (I' J' : Nat → Nat → Int), xc_P kd pl nu nm c r T C w q a I J I' J' → a ≤ m → (a = m ∨ kd (q + 1 + a) ≠ 2) → am_WP (d + 1) (90, 99, [.inr (.inl 12), .inr (.inl (r + 1)), .inl (xt_v nw), .inl (m : Int), .inl (a : Int)], [], (0, 0), n, K, I', J', R) Q := by
    intro a I' J' hP ham hor
    cases nw with
    | false =>
      have e3 := m3 rfl
      exact s_Form_readCon_99 ⟨fun _ => s_Form_readCon_114 ⟨Or.inr rfl, ok I' J' a hP (by omega) (fun h => absurd h (by decide)) (fun _ => by rw [e3] at hor; exact hor)⟩, fun h => absurd rfl h⟩
    | true =>
      have e3 := m2 rfl
      refine s_Form_readCon_99 ⟨fun h => absurd h (by decide), fun _ => ⟨fun h1 => s_Form_readCon_114 ⟨Or.inl rfl, ?_⟩, fun h1 => s_Form_readCon_114 ⟨Or.inr rfl, ok I' J' a hP (by omega) (fun _ => by omega) (fun h => absurd h (by decide))⟩⟩⟩
      have ea : a = 0 := by omega
      subst ea
      have hk : kd (q + 1) ≠ 2 := by
        rcases hor with h | h
        · exact absurd h (by omega)
        · exact h
      exact bad I' J' (q + 1) (Or.inr ⟨rfl, h, hk, rfl⟩) hlt hP.2.2.2.2.1 hP.1
  have loop : ∀ (u a : Nat) (I' J' : Nat → Nat → Int), a + u = m → xc_P kd pl nu nm c r T C w q a I J I' J' → am_WP (d + 1) (90, 51, [.inr (.inl 12), .inr (.inl (r + 1)), .inl (xt_v nw), .inl (m : Int), .inl (a : Int)], [], (0, 0), n, K, I', J', R) Q := by
    intro u
    induction u with
    | zero =>
      intro a I' J' hu hP
      exact s_Form_readCon_51 ⟨fun _ => fin a I' J' hP (by omega) (Or.inl (by omega)), fun h => absurd h (by omega)⟩
    | succ u ih =>
      intro a I' J' hu hP
      have hP0 := hP
      obtain ⟨p1, p2, p3, p4, p5, p6, p7, p8, p9, p10, p11, p12, p13⟩ := hP
      have hT2 := ft_T_xy hr hT p1.1
      refine s_Form_readCon_51 ⟨fun h => absurd h (by omega), fun _ => ⟨(am_kk hB rfl), _, (am_rf hB rfl), (am_kk hB rfl), x_kind hB hT2 p5 p4 ⟨_, rfl, s_Form_readCon_64 ⟨fun h2 => fin a I' J' hP0 (by omega) (Or.inr h2), fun h2 => ⟨(am_kk hB rfl), _, (am_rf hB rfl), (am_kk hB rfl), ?_⟩⟩⟩⟩⟩
      have hl2 : q + 1 + a < c := ft_lt hT2 p4 (by rw [h2]; decide) (by rw [h2]; decide)
      refine x_number hB hT2 p5 p4 ⟨_, rfl, s_Form_readCon_76 ⟨(am_kk hB rfl), _, (am_rf hB rfl), (am_kk hB rfl), x_at hB hT2 p5 p4 ⟨_, rfl, s_Form_readCon_83 ⟨k0, x_addArg hB hr p7 hC6 p10 (by omega) ⟨rfl, ?_⟩⟩⟩⟩⟩
      have f3 : xc_fr r T C I (am_u (am_u (am_u I' (r + 12) (3 * C + a) (nu (q + 1 + a))) (r + 13) (3 * C + a) (pl (q + 1 + a))) (r + 6) C ((a + 1 : Nat) : Int)) J J' := xc_ut hr (xc_ut hr (xc_ut hr p1 (by omega)) (by omega)) (by omega)
      have hT3 := ft_T_xy hr hT f3.1
      have c3 : am_u (am_u (am_u I' (r + 12) (3 * C + a) (nu (q + 1 + a))) (r + 13) (3 * C + a) (pl (q + 1 + a))) (r + 6) C ((a + 1 : Nat) : Int) 13 7 = ((q + 1 + a : Nat) : Int) := by rw [am_u_ne (by omega), am_u_ne (by omega), am_u_ne (by omega), p5]
      refine s_Form_readCon_86 ⟨(am_kk hB rfl), _, (am_rf hB rfl), (am_kk hB rfl), x_adv hB hT3 c3 hl2 ⟨rfl, s_Form_readCon_93 (am_ar_i (by omega) (by omega) ?_)⟩⟩
      have g := ih (a + 1) (am_u (am_u (am_u (am_u I' (r + 12) (3 * C + a) (nu (q + 1 + a))) (r + 13) (3 * C + a) (pl (q + 1 + a))) (r + 6) C ((a + 1 : Nat) : Int)) 13 7 ((q + 1 + a + 1 : Nat) : Int)) J' (by omega) ⟨xc_ut hr f3 (by omega), p2, ?_, hl2, am_u_kk, ?_, ?_, ?_, ?_, ?_, p11, ?_, ?_⟩
      · exact g
      · intro z hz
        by_cases e : z = a
        · subst e; exact h2
        · exact p3 z (by omega)
      · rw [am_u_ne (by omega), am_u_ne (by omega), am_u_ne (by omega), am_u_ne (by omega), p6]
      · rw [am_u_ne (by omega), am_u_ne (by omega), am_u_ne (by omega), am_u_ne (by omega), p7]
      · rw [am_u_ne (by omega), am_u_ne (by omega), am_u_ne (by omega), am_u_ne (by omega), p8]
      · rw [am_u_ne (by omega), am_u_ne (by omega), am_u_ne (by omega), am_u_ne (by omega), p9]
      · rw [am_u_ne (by omega)]; exact am_u_kk
      · rw [am_u_ne (by omega), am_u_ne (by omega), am_u_ne (by omega), am_u_ne (by omega), p12]
      · intro z hz
        by_cases e : z = a
        · subst e
          exact ⟨by rw [am_u_ne (by omega), am_u_ne (by omega), am_u_ne (by omega), am_u_kk], by rw [am_u_ne (by omega), am_u_ne (by omega), am_u_kk]⟩
        · have h5 := p13 z (by omega)
          exact ⟨by rw [am_u_ne (by omega), am_u_ne (by omega), am_u_ne (by omega), am_u_kn (by omega)]; exact h5.1, by rw [am_u_ne (by omega), am_u_ne (by omega), am_u_kn (by omega), am_u_ne (by omega)]; exact h5.2⟩
  have st := s_Form_readCon_47 (x2 := xt_v nw) (loop m 0 I2 J1 (by omega) P0)
  refine s_Form_readCon_38 ⟨fun h0 => ?_, fun h0 => ?_⟩
  · have e : nw = false := by cases nw <;> simp_all [xt_v]
    rw [show (3 : Int) = (m : Int) by rw [m3 e]; rfl]; exact st
  · have e : nw = true := by cases nw <;> simp_all [xt_v]
    rw [show (1 : Int) = (m : Int) by rw [m2 e]; rfl]; exact st
end XY
