/-! MEANING: the reference's pats -/
def ls_g {T : Type} (f : Int → T → Option Int) (at' : T → Int) : (Nat → Int) → Nat → List T → Option Int
  | _, _, [] => none
  | _, 0, t :: _ => some (at' t)
  | W, m + 1, t :: ts => oe (f (W 0) t) (ls_g f at' (fun i => W (i + 1)) m ts)
theorem ls_fg {T : Type} {f : Int → T → Option Int} {at' : T → Int} {e : Int} : ∀ (ts : List T) (m : Nat) (W : Nat → Int), ls_f f at' e W m ts = oe (ls_g f at' W m ts) (if ts.length < m then some e else none) := by
  intro ts
  induction ts with
  | nil =>
    intro m W
    cases m with
    | zero => rfl
    | succ m => rfl
  | cons t ts ih =>
    intro m W
    cases m with
    | zero => rfl
    | succ m =>
      show oe (f (W 0) t) (ls_f f at' e (fun i => W (i + 1)) m ts) = oe (oe (f (W 0) t) (ls_g f at' (fun i => W (i + 1)) m ts)) (if (t :: ts).length < m + 1 then some e else none)
      rw [ih]
      have e1 : ((t :: ts).length < m + 1) = (ts.length < m) := by
        show (ts.length + 1 < m + 1) = _
        simp
      simp only [e1]
      cases f (W 0) t with
      | none => rfl
      | some k => rfl
theorem ls_g_len {T : Type} {f : Int → T → Option Int} {at' : T → Int} : ∀ (ts : List T) (m : Nat) (W : Nat → Int), ls_g f at' W m ts = none → ts.length ≤ m := by
  intro ts
  induction ts with
  | nil => intro m W _; exact Nat.zero_le _
  | cons t ts ih =>
    intro m W h
    cases m with
    | zero => exact absurd h (by simp [ls_g])
    | succ m =>
      have h' : oe (f (W 0) t) (ls_g f at' (fun i => W (i + 1)) m ts) = none := h
      cases hc : f (W 0) t with
      | none =>
        rw [hc] at h'
        have := ih m _ h'
        show ts.length + 1 ≤ m + 1
        omega
      | some k =>
        rw [hc] at h'
        exact absurd h' (by simp [oe])
section MP
variable (d n0 : Nat) (K : Nat → am_K) (J : Nat → Nat → Int) (R : Nat → Nat → Option Nat) (Q : am_Q) (kd pl nu nm : Nat → Int) (c s ρ : Nat) (N m wd : Nat) (F G : Nat → Nat → Int) (aT W : Nat → Int) (r : Nat)
def mp_P (n : Nat) : Prop := ∀ (t : tm n) (i j f cnt col many base p : Nat) (V : Nat → Int) (l w : Int) (lz0 lz : Bool) (A : List (Nat × Int)) (I : Nat → Nat → Int), mt_T I J kd pl nu nm c → I 101 7 = (i : Int) → i ≤ c → I 101 8 = 0 → mtab F G r s N m wd I J → rS F aT W r m wd f cnt col V many base I → cnt < many → many ≤ 4 → col ≤ 4 → f + n ≤ 6 → I 101 34 = l → wt F r N l w → I 101 35 = (p : Int) → p < 2 * 4 ^ (f + 1) → lzS lz0 lz f I → acS I (12 * s + ρ) A → A.length + tm_sz n t ≤ 60 → ft_sp kd pl nu nm false n i t j →
  (tf (fx (G (r + 7)) m) (F (r + 5)) (F (r + 6)) aT n w t = none → ∀ (I' : Nat → Nat → Int) (col' : Nat), rf_fr (12 * s + ρ) f I I' → I' 101 7 = (j : Int) → j ≤ c → I' 101 8 = 0 → rS F aT W r m wd f (cnt + 1) col' V many base I' → col' ≤ col + 1 → (f ≠ 0 → col' = col) → lzL lz0 f I' → (lz0 = true → I' 101 37 = I 101 37) → acS I' (12 * s + ρ) (A ++ (if lz = true then [] else al (fx (G (r + 7)) m) (nwc F r) n p t)) → rw_L d n0 s ρ K J R Q col' I') →
  (∀ k : Int, tf (fx (G (r + 7)) m) (F (r + 5)) (F (r + 6)) aT n w t = some k → ∀ (I' : Nat → Nat → Int) (col' : Nat), rbad (12 * s + ρ) f k I I' → rw_L d n0 s ρ K J R Q col' I') →
  am_WP (d + 4) (46, 8, [.inr (.inl 101), .inl (s : Int), .inl (ρ : Int), .inl 1, .inl (xt_v lz0), am_o, am_o], [], (0, 0), n0, K, I, J, R) (rw_C d s ρ Q col)
def ml_P (n : Nat) : Prop := ∀ (ts : List (tm n)) (i j f cnt col many base : Nat) (V : Nat → Int) (lz : Bool) (A : List (Nat × Int)) (I : Nat → Nat → Int), mt_T I J kd pl nu nm c → I 101 7 = (i : Int) → i ≤ c → I 101 8 = 0 → mtab F G r s N m wd I J → rS F aT W r m wd f cnt col V many base I → cnt ≤ many → many ≤ 4 → col ≤ 4 → f + n ≤ 6 → lzL lz f I → acS I (12 * s + ρ) A → A.length + ls_sz (tm_sz n) ts ≤ 60 → ls_sp (ft_sp kd pl nu nm false n) i ts j →
  (ls_g (tf (fx (G (r + 7)) m) (F (r + 5)) (F (r + 6)) aT n) (tm_at n) (fun z => V (cnt + z)) (many - cnt) ts = none → ∀ (I' : Nat → Nat → Int) (col' : Nat), rf_fr (12 * s + ρ) f I I' → I' 101 7 = (j : Int) → j ≤ c → I' 101 8 = 0 → rS F aT W r m wd f (cnt + ts.length) col' V many base I' → col' ≤ 4 → (f ≠ 0 → col' = col) → lzL lz f I' → (lz = true → I' 101 37 = I 101 37) → acS I' (12 * s + ρ) (A ++ (if lz = true then [] else ls_al (al (fx (G (r + 7)) m) (nwc F r) n) (base + cnt) ts)) → rw_L d n0 s ρ K J R Q col' I') →
  (∀ k : Int, ls_g (tf (fx (G (r + 7)) m) (F (r + 5)) (F (r + 6)) aT n) (tm_at n) (fun z => V (cnt + z)) (many - cnt) ts = some k → ∀ (I' : Nat → Nat → Int) (col' : Nat), rbad (12 * s + ρ) f k I I' → rw_L d n0 s ρ K J R Q col' I') → rw_L d n0 s ρ K J R Q col I
end MP
section MPP
variable {d n0 : Nat} {K : Nat → am_K} {J : Nat → Nat → Int} {R : Nat → Nat → Option Nat} {Q : am_Q} {kd pl nu nm : Nat → Int} {c s ρ : Nat} {N m wd : Nat} {F G : Nat → Nat → Int} {aT W : Nat → Int} {r : Nat}
/-- no front stands here -/
theorem mp_core {I : Nat → Nat → Int} {i : Nat} {x4 : Int} {Q' : am_Q} (hB : am_B K R) (hT : mt_T I J kd pl nu nm c) (hi : I 101 7 = (i : Int)) (hc : i < c) (n33 : kd i ≠ 33) (n126 : kd i ≠ 126) (n4 : kd i = 4 → kd (i + 1) ≠ 64) (h : am_WP (d + 4) (46, 8, [.inr (.inl 101), .inl (s : Int), .inl (ρ : Int), .inl 0, .inl x4, am_o, am_o], [], (0, 0), n0, K, I, J, R) Q') : am_WP (d + 4) (46, 8, [.inr (.inl 101), .inl (s : Int), .inl (ρ : Int), .inl 1, .inl x4, am_o, am_o], [], (0, 0), n0, K, I, J, R) Q' := by
  have h12 := hT.2.1
  have hs4 := (tr_sort (hT.1 i (by omega)).2).2.2.1
  have hsg := tr_sign (x := 64) (by unfold tb_sg; decide) (hT.1 (i + 1) (by omega)).2
  refine s_M_meaningOfPat_8 ⟨fun h => absurd h (by decide), fun _ => ⟨(am_kk hB rfl), m_isSign (by unfold tb_sg; decide) hB hT hi (by omega) (fun h => absurd h n33) (fun _ => ⟨_, rfl, s_M_meaningOfPat_18 ⟨fun _ => ⟨(am_kk hB rfl), m_isSign (by unfold tb_sg; decide) hB hT hi (by omega) (fun h => absurd h n126) (fun _ => ⟨_, rfl, s_M_meaningOfPat_58 ⟨fun _ => ⟨(am_kk hB rfl), 103, (am_rf hB rfl), (am_kk hB rfl), am_nm_k hi ?_⟩, fun h => absurd rfl h⟩⟩)⟩, fun h => absurd rfl h⟩⟩)⟩⟩
  rintro _ rfl _ _
  refine ⟨_, (am_kk hB rfl), ⟨by omega, by omega⟩, fun z3 hz3 _ _ => ⟨fun _ => h, fun h4 => ⟨(am_kk hB rfl), 103, (am_rf hB rfl), (am_kk hB rfl), am_nm_k hi ?_⟩⟩⟩
  have k4 : kd i = 4 := hs4.mp (by rw [← h4, hz3]; rfl)
  rintro _ rfl _ _
  refine am_ar_i (by omega) (by omega) ⟨_, (am_kk hB rfl), ⟨by omega, by omega⟩, fun z8 hz8 _ _ => ⟨fun _ => h, fun h6 => ⟨(am_kk hB rfl), 105, (am_rf hB rfl), (am_kk hB rfl), am_nm_k hi ?_⟩⟩⟩
  rintro _ rfl _ _
  refine am_ar_i (by omega) (by omega) ⟨_, by decide, (am_kk hB rfl), ⟨by omega, by omega⟩, fun z13 hz13 _ _ z15 hz15 _ _ => ⟨fun _ => h, fun h0 => ?_⟩⟩
  exfalso
  rw [hz15, am_lc0, hz13] at h0
  refine n4 k4 (hsg.mp ⟨?_, h0⟩)
  rw [← h6, hz8]; rfl
/-- a leaf is behind -/
theorem mp_done {I I1 : Nat → Nat → Int} {i f cnt col many base : Nat} {V : Nat → Int} {lz0 lz : Bool} {A' : List (Nat × Int)} (hB : am_B K R) (hs : s < 2) (h7 : I 101 7 = (i : Int)) (hi12 : i < 1200) (h8 : I 101 8 = 0) (hS : rS F aT W r m wd f cnt col V many base I) (hf : f ≤ 6) (hcnt : cnt ≤ 4) (hcol : col ≤ 4) (hlz : lzS lz0 lz f I) (hA : acS I (12 * s + ρ) A') (hfr : rf_fr (12 * s + ρ) f I1 I)
    (ok : ∀ (I' : Nat → Nat → Int) (col' : Nat), rf_fr (12 * s + ρ) f I1 I' → I' 101 7 = ((i + 1 : Nat) : Int) → I' 101 8 = 0 → rS F aT W r m wd f (cnt + 1) col' V many base I' → col' ≤ col + 1 → (f ≠ 0 → col' = col) → lzL lz0 f I' → I' 101 37 = I 101 37 → acS I' (12 * s + ρ) A' → rw_L d n0 s ρ K J R Q col' I') : am_WP (d + 4) (46, 221, [.inr (.inl 101), .inl (s : Int), .inl (ρ : Int), .inl 0, .inl (xt_v lz0), .inl 0, am_o], [], (0, 0), n0, K, I, J, R) (rw_C d s ρ Q col) ∧ (∀ Y : Int, am_WP (d + 4) (46, 317, [.inr (.inl 101), .inl (s : Int), .inl (ρ : Int), .inl 0, .inl (xt_v lz0), .inl 0, .inl Y], [], (0, 0), n0, K, I, J, R) (rw_C d s ρ Q col)) ∧ am_WP (d + 4) (46, 342, [.inr (.inl 101), .inl (s : Int), .inl (ρ : Int), .inl 0, .inl (xt_v lz0), .inl 0, am_o], [.inl 0], (0, 0), n0, K, I, J, R) (rw_C d s ρ Q col) := by
  have v01 : xt_v lz0 = 0 ∨ xt_v lz0 = 1 := by cases lz0 <;> simp [xt_v]
  have fin : ∀ (I2 : Nat → Nat → Int) (z : Int) (col' : Nat), (∀ a j : Nat, ¬ (a = 123 ∧ f = j + 1) → I2 a j = I a j) → rS F aT W r m wd f (cnt + 1) col' V many base I2 → (col : Int) + z = (col' : Int) → 0 ≤ z → z ≤ 1 → (f ≠ 0 → z = 0) → rw_C d s ρ Q col (some (.inl z)) (n0, K, am_u (am_u I2 101 7 ((i + 1 : Nat) : Int)) 101 36 (xt_v lz0), J, R) := by
    intro I2 z col' f2 S2 e1 z0 z1 z2
    refine rw_ret e1 ⟨z0, z1⟩ (by omega) (ok _ col' (rf_ut (rf_ut (rf_trans hfr (f' := f) (fun a j g => f2 a j (fun q => g ?_)) (Nat.le_refl _)) (rf_101 (by omega))) (rf_101 (by omega))) ?_ ?_ (rS_fr S2 ?_ (fun a j a1 a2 a3 => ?_)) (by omega) (fun hf0 => by have := z2 hf0; omega) ⟨am_u_kk, fun h => ?_⟩ ?_ (acS_fr hA (fun a j a1 a2 => ?_)))
    · unfold rf_ch; omega
    · exact (am_u_kn (by decide)).trans am_u_kk
    · rw [am_u_kn (by decide), am_u_kn (by decide), f2 _ _ (by omega)]; exact h8
    · rw [am_u_kn (by decide), am_u_kn (by decide)]
    · rw [am_u_ne (by omega), am_u_ne (by omega)]
    · rw [am_u_kn (by decide), am_u_kn (by decide), f2 _ _ (by omega)]
      exact (hlz.2.1 h).2
    · rw [am_u_kn (by decide), am_u_kn (by decide), f2 _ _ (by omega)]
    · rw [am_u_ne (by omega), am_u_ne (by omega), f2 _ _ (by omega)]
  have bh : ∀ (Q' : am_Q) (d' : Nat), (∀ (I2 : Nat → Nat → Int) (z : Int) (col' : Nat), (∀ a j : Nat, ¬ (a = 123 ∧ f = j + 1) → I2 a j = I a j) → rS F aT W r m wd f (cnt + 1) col' V many base I2 → (col : Int) + z = (col' : Int) → 0 ≤ z → z ≤ 1 → (f ≠ 0 → z = 0) → Q' (some (.inl z)) (n0, K, I2, J, R)) → am_WP d' (am_entry 45 [.inr (.inl 101)] (n0, K, I, J, R)) Q' := fun Q' d' h => m_behind hB hS (by omega) (by omega) h
  refine ⟨?_, fun Y => ?_, ?_⟩
  · refine s_M_meaningOfPat_221 ⟨(am_kk hB rfl), am_nm_k h8 ?_⟩
    rintro _ rfl _ _
    refine ⟨fun _ => ⟨(am_kk hB rfl), bh _ _ (fun I2 z col' f2 S2 e1 z0 z1 z2 => ⟨z, rfl, s_M_meaningOfPat_236 ⟨(am_kk hB rfl), am_nm_k ((f2 _ _ (by omega)).trans h7) ?_⟩⟩)⟩, fun h => absurd rfl h⟩
    rintro _ rfl _ _
    refine ⟨(am_kk hB rfl), am_nm_k ((f2 _ _ (by omega)).trans h8) ?_⟩
    rintro _ rfl _ _
    exact ⟨fun _ => s_M_meaningOfPat_255 (am_ar_i (by omega) (by omega) ⟨⟨by decide, (am_kk hB rfl)⟩, ⟨by decide, (am_kk hB rfl)⟩, v01, fin I2 z col' f2 S2 e1 z0 z1 z2⟩), fun h => absurd rfl h⟩
  · refine s_M_meaningOfPat_317 ⟨(am_kk hB rfl), bh _ _ (fun I2 z col' f2 S2 e1 z0 z1 z2 => ⟨z, rfl, s_M_meaningOfPat_321 ⟨(am_kk hB rfl), am_nm_k ((f2 _ _ (by omega)).trans h7) ?_⟩⟩)⟩
    rintro _ rfl _ _
    exact am_ar_i (by omega) (by omega) ⟨⟨by decide, (am_kk hB rfl)⟩, ⟨by decide, (am_kk hB rfl)⟩, v01, fin I2 z col' f2 S2 e1 z0 z1 z2⟩
  · refine s_M_meaningOfPat_342 ⟨fun _ => ⟨(am_kk hB rfl), bh _ _ (fun I2 z col' f2 S2 e1 z0 z1 z2 => ⟨z, rfl, s_M_meaningOfPat_440 ⟨(am_kk hB rfl), am_nm_k ((f2 _ _ (by omega)).trans h7) ?_⟩⟩)⟩, fun h => absurd rfl h⟩
    rintro _ rfl _ _
    exact am_ar_i (by omega) (by omega) ⟨⟨by decide, (am_kk hB rfl)⟩, ⟨by decide, (am_kk hB rfl)⟩, v01, fin I2 z col' f2 S2 e1 z0 z1 z2⟩
end MPP
