/-! MEANING: the reference's types and constructors -/
def mm_bad (s : Nat) (k : Int) (I I' J J' : Nat → Nat → Int) : Prop := mm_fr s I I' J J' ∧ I' 101 8 = 1 ∧ I' 101 9 = k ∧ 0 ≤ I' 101 7 ∧ I' 101 7 ≤ 1300
theorem mm_bt {s : Nat} {k : Int} {I I1 I2 J J1 J2 : Nat → Nat → Int} (h : mm_fr s I I1 J J1) (h' : mm_bad s k I1 I2 J1 J2) : mm_bad s k I I2 J J2 := ⟨mm_trans h h'.1, h'.2⟩
/-- the reference's constructors, against the class's -/
def mc_ok (F G : Nat → Nat → Int) (r s C : Nat) (I J : Nat → Nat → Int) : Prop := ∀ c : Nat, c < C → I 111 (36 * s + c) = F (r + 9) (F (r + 5) c).toNat ∧ I 112 (36 * s + c) = F (r + 6) c ∧ (∀ z : Nat, z < 3 → (z : Int) < F (r + 6) c → I 113 (3 * (36 * s + c) + z) = F (r + 12) (3 * c + z)) ∧ tk_w (J 110 (36 * s + c)) (G (r + 7) c)
section MC
variable {d n : Nat} {K : Nat → am_K} {R : Nat → Nat → Option Nat} {Q : am_Q} {kd pl nu nm : Nat → Int} {c s : Nat} {g nw : Nat → Int} {N m : Nat} {F G : Nat → Nat → Int} {r : Nat}
theorem m_mispl {I J : Nat → Nat → Int} {i : Nat} (hB : am_B K R) (hT : mt_T I J kd pl nu nm c) (hi : I 101 7 = (i : Int)) (hc : i ≤ c) (h8 : I 101 8 = 0) (post : Q none (n, K, am_u (am_u I 101 8 1) 101 9 (pl i), J, R)) : am_WP d (am_entry 24 [.inr (.inl 101)] (n, K, I, J, R)) Q := by
  have h12 := hT.2.1
  refine e_M_misplaced ⟨(am_kk hB rfl), am_nm_k h8 ?_⟩
  rintro _ rfl _ _
  refine ⟨fun h => absurd rfl h, fun _ => ⟨⟨by decide, (am_kk hB rfl)⟩, Or.inr rfl, (am_kk hB rfl), _, (am_rf hB rfl), (am_kk hB rfl), am_nm_ie (by decide) (am_nm_k hi ?_)⟩⟩
  rintro _ rfl _ _
  refine ⟨_, (am_kk hB rfl), ⟨by omega, by omega⟩, am_nm_ne (by decide) (am_nm_k (hT.1 i hc).1 ?_)⟩
  rintro _ rfl _ _
  exact ⟨⟨by decide, (am_kk hB rfl)⟩, post⟩
theorem m_mtype {I J : Nat → Nat → Int} {i : Nat} (hB : am_B K R) (hs : s < 2) (hT : mt_T I J kd pl nu nm c) (hi : I 101 7 = (i : Int)) (hc : i ≤ c) (h8 : I 101 8 = 0) (hk : kd i = 2) (hL : ∀ l : Nat, l < 26 → I 107 (26 * s + l) = kx g nw N (l : Int)) (hn : ∀ T : Nat, T < N → nw T = 0 ∨ nw T = 1)
    (ok : lx g N (nu i) ≠ -1 → Q none (n, K, am_u I 101 7 ((i + 1 : Nat) : Int), J, R)) (bad : lx g N (nu i) = -1 → ∀ I' : Nat → Nat → Int, mm_bad s (pl i) I I' J J → Q none (n, K, I', J, R)) : am_WP (d + 1) (am_entry 40 [.inr (.inl 101), .inl (s : Int)] (n, K, I, J, R)) Q := by
  have h12 := hT.2.1
  obtain ⟨-, t2, t3⟩ := tr_let (hT.1 i hc).2 hk
  obtain ⟨l, hl⟩ : ∃ l : Nat, nu i = (l : Int) := ⟨(nu i).toNat, by omega⟩
  refine e_M_meaningOfType ⟨(am_kk hB rfl), 107, (am_rf hB rfl), am_ar_i (by omega) (by omega) ⟨(am_kk hB rfl), 105, (am_rf hB rfl), (am_kk hB rfl), am_nm_k hi ?_⟩⟩
  rintro _ rfl _ _
  refine m_let hB hT hc hk (am_ar_i (by omega) (by omega) ?_)
  rw [hl, show (26 : Int) * (s : Int) + (l : Int) = ((26 * s + l : Nat) : Int) by omega]
  refine ⟨_, (am_kk hB rfl), ⟨by omega, by omega⟩, am_nm_k (hL l (by omega)) ?_⟩
  rintro _ rfl _ _
  rw [hl] at ok bad
  refine ⟨fun h => s_M_meaningOfType_27 ⟨(am_kk hB rfl), am_nm_k hi ?_⟩, fun h => ⟨(am_kk hB rfl), m_mispl hB hT hi hc h8 ⟨rfl, s_M_meaningOfType_27 ⟨(am_kk hB rfl), am_nm_k (show am_u (am_u I 101 8 1) 101 9 (pl i) 101 7 = (i : Int) from ?_) ?_⟩⟩⟩⟩
  · rintro _ rfl _ _
    refine ⟨(am_kk hB rfl), am_nm_k h8 ?_⟩
    rintro _ rfl _ _
    refine ⟨fun _ => s_M_meaningOfType_44 (am_ar_i (by omega) (by omega) ⟨⟨by decide, (am_kk hB rfl)⟩, ok (fun q => h ((kx_0 hn).mpr q))⟩), fun h => absurd rfl h⟩
  · rw [am_u_kn (by decide), am_u_kn (by decide)]; exact hi
  · rintro _ rfl _ _
    refine ⟨(am_kk hB rfl), am_nm_k (show am_u (am_u I 101 8 1) 101 9 (pl i) 101 8 = 1 from (am_u_kn (by decide)).trans am_u_kk) ?_⟩
    rintro _ rfl _ _
    refine ⟨fun h => absurd h (by decide), fun _ => s_M_meaningOfType_44 (am_ar_i (by omega) (by omega) ⟨⟨by decide, (am_kk hB rfl)⟩, bad ((kx_0 hn).mp h) _ ⟨mm_ut (mm_ut (mm_ut mm_refl (mm_101 (by omega))) (mm_101 (by omega))) (mm_101 (by omega)), ?_, ?_, ?_, ?_⟩⟩)⟩
    · rw [am_u_kn (by decide), am_u_kn (by decide)]; exact am_u_kk
    · rw [am_u_kn (by decide)]; exact am_u_kk
    · rw [am_u_kk]; omega
    · rw [am_u_kk]; omega
/-- meaningOfCons, already bad -/
theorem mc_dead {I J : Nat → Nat → Int} {x2 : Int} {v : am_V} (hB : am_B K R) (h8 : I 101 8 = 1) (h7 : 0 ≤ I 101 7 ∧ I 101 7 ≤ 1300) (post : Q none (n, K, am_u I 101 7 (I 101 7), J, R)) : am_WP (d + 1) (41, 0, [.inr (.inl 101), .inl (s : Int), .inl x2, am_o], [], (0, 0), n, K, I, J, R) Q := by
  refine s_M_meaningOfCons_0 ⟨(am_kk hB rfl), am_nm_k h8 ?_⟩
  rintro _ rfl _ _
  refine ⟨fun _ => s_M_meaningOfCons_186 ⟨(am_kk hB rfl), fun z1 hz1 _ _ => ⟨(am_kk hB rfl), am_nm_k h8 ?_⟩⟩, fun h => absurd h (by decide)⟩
  rintro _ rfl _ _
  refine ⟨fun h => absurd h (by decide), fun _ => s_M_meaningOfCons_203 (am_ar_i (by omega) (by omega) ⟨⟨by decide, (am_kk hB rfl)⟩, ?_⟩)⟩
  rw [hz1, Int.add_zero]
  exact post
theorem am_u_self {f : Nat → Nat → Int} {a k : Nat} : am_u f a k (f a k) = f := by
  funext x j
  by_cases e : x = a ∧ j = k
  · rw [e.1, e.2, am_u_kk]
  · exact am_u_off e
/-- arguments of a constructor -/
theorem mc_args {I0 J : Nat → Nat → Int} {q a C : Nat} {x2 : Int} (hB : am_B K R) (hs : s < 2) (hC : C < 36) (hT : mt_T I0 J kd pl nu nm c) (ha : a ≤ 3) (hk : ∀ z : Nat, z < a → kd (q + 1 + z) = 2) (hk2 : kd (q + 1 + a) ≠ 2) (hqc : q + 1 + a ≤ c) (hL : ∀ l : Nat, l < 26 → I0 107 (26 * s + l) = kx g nw N (l : Int)) (hn : ∀ T : Nat, T < N → nw T = 0 ∨ nw T = 1)
    (ok : arf (lx g N) pl nu (q + 1) a = none → ∀ I' : Nat → Nat → Int, (∀ x j : Nat, ¬ (x = 101 ∧ j = 7) → ¬ (x = 112 ∧ j = 36 * s + C) → ¬ (x = 113 ∧ 3 * (36 * s + C) ≤ j ∧ j < 3 * (36 * s + C) + 3) → I' x j = I0 x j) → I' 101 7 = ((q + 1 + a : Nat) : Int) → I' 112 (36 * s + C) = (a : Int) → (∀ z : Nat, z < a → I' 113 (3 * (36 * s + C) + z) = nu (q + 1 + z)) → am_WP (d + 2) (41, 0, [.inr (.inl 101), .inl (s : Int), .inl x2, am_o], [], (0, 0), n, K, I', J, R) Q)
    (bad : ∀ k : Int, arf (lx g N) pl nu (q + 1) a = some k → ∀ I' : Nat → Nat → Int, mm_bad s k I0 I' J J → Q none (n, K, I', J, R)) : ∀ (u z : Nat) (I : Nat → Nat → Int), z + u = a → (∀ x j : Nat, ¬ (x = 101 ∧ j = 7) → ¬ (x = 112 ∧ j = 36 * s + C) → ¬ (x = 113 ∧ 3 * (36 * s + C) ≤ j ∧ j < 3 * (36 * s + C) + 3) → I x j = I0 x j) → I0 101 8 = 0 → I 101 7 = ((q + 1 + z : Nat) : Int) → I 112 (36 * s + C) = (z : Int) → (∀ y : Nat, y < z → I 113 (3 * (36 * s + C) + y) = nu (q + 1 + y)) → arf (lx g N) pl nu (q + 1) a = arf (lx g N) pl nu (q + 1 + z) u → am_WP (d + 2) (41, 120, [.inr (.inl 101), .inl (s : Int), .inl x2, .inl ((36 * s + C : Nat) : Int)], [], (0, 0), n, K, I, J, R) Q := by
  intro u
  induction u with
  | zero =>
    intro z I hu hf h8 h7 h112 h113 he
    have ez : z = a := by omega
    subst ez
    have hT1 : mt_T I J kd pl nu nm c := ⟨fun k hk => by rw [hf 104 k (by omega) (by omega) (by omega), hf 103 k (by omega) (by omega) (by omega)]; exact hT.1 k hk, hT.2⟩
    refine s_M_meaningOfCons_120 ⟨(am_kk hB rfl), am_nm_k ((hf 101 8 (by omega) (by omega) (by omega)).trans h8) ?_⟩
    rintro _ rfl _ _
    refine ⟨fun h => absurd rfl h, fun _ => ⟨(am_kk hB rfl), _, (am_rf hB rfl), (am_kk hB rfl), m_srt hB hT1 h7 hqc (fun z4 e2 _ => ⟨fun _ => am_WP.forget (ok he I hf h7 h112 h113) _ (am_le_eq (am_le_eq (am_le_eq (am_le_o am_le_nil)))), fun h => absurd (e2.mp h) hk2⟩)⟩⟩
  | succ u ih =>
    intro z I hu hf h8 h7 h112 h113 he
    have hT1 : mt_T I J kd pl nu nm c := ⟨fun k hk => by rw [hf 104 k (by omega) (by omega) (by omega), hf 103 k (by omega) (by omega) (by omega)]; exact hT.1 k hk, hT.2⟩
    have kz := hk z (by omega)
    have h12 := hT.2.1
    have ixs : (0 : Int) ≤ ((36 * s + C : Nat) : Int) ∧ ((36 * s + C : Nat) : Int) < ((72 : Nat) : Int) := ⟨by omega, by omega⟩
    refine s_M_meaningOfCons_120 ⟨(am_kk hB rfl), am_nm_k ((hf 101 8 (by omega) (by omega) (by omega)).trans h8) ?_⟩
    rintro _ rfl _ _
    refine ⟨fun h => absurd rfl h, fun _ => ⟨(am_kk hB rfl), _, (am_rf hB rfl), (am_kk hB rfl), m_srt hB hT1 h7 (by omega) (fun z4 e2 _ => ⟨fun h => absurd (e2.mpr kz) h, fun _ => ⟨(am_kk hB rfl), 113, (am_rf hB rfl), am_ar_i (by omega) (by omega) ⟨(am_kk hB rfl), 112, (am_rf hB rfl), _, (am_kk hB rfl), ixs, am_nm_k h112 ?_⟩⟩⟩)⟩⟩
    rintro _ rfl _ _
    refine am_ar_i (by omega) (by omega) ?_
    rw [show (3 : Int) * ((36 * s + C : Nat) : Int) + (z : Int) = ((3 * (36 * s + C) + z : Nat) : Int) by omega]
    refine ⟨(am_kk hB rfl), 105, (am_rf hB rfl), (am_kk hB rfl), am_nm_k h7 ?_⟩
    rintro _ rfl _ _
    refine m_let hB hT1 (by omega) kz ⟨_, by decide, (am_kk hB rfl), ⟨by omega, by omega⟩, (am_kk hB rfl), 112, (am_rf hB rfl), _, (am_kk hB rfl), ixs, am_nm_k (show am_u I 113 (3 * (36 * s + C) + z) (nu (q + 1 + z)) 112 (36 * s + C) = (z : Int) from (am_u_ne (by decide)).trans h112) ?_⟩
    rintro _ rfl _ _
    refine am_ar_i (by omega) (by omega) ⟨_, by decide, (am_kk hB rfl), ixs, (am_kk hB rfl), ?_⟩
    show am_WP (d + 1) (am_entry 40 [.inr (.inl 101), .inl (s : Int)] (n, K, am_u (am_u I 113 (3 * (36 * s + C) + z) (nu (q + 1 + z))) 112 (36 * s + C) ((z : Int) + 1), J, R)) _
    have f2 : ∀ x j : Nat, ¬ (x = 101 ∧ j = 7) → ¬ (x = 112 ∧ j = 36 * s + C) → ¬ (x = 113 ∧ 3 * (36 * s + C) ≤ j ∧ j < 3 * (36 * s + C) + 3) → am_u (am_u I 113 (3 * (36 * s + C) + z) (nu (q + 1 + z))) 112 (36 * s + C) ((z : Int) + 1) x j = I0 x j := by
      intro x j a1 a2 a3
      rw [am_u_off (by omega), am_u_off (by omega), hf x j a1 a2 a3]
    have p1 : am_u (am_u I 113 (3 * (36 * s + C) + z) (nu (q + 1 + z))) 112 (36 * s + C) ((z : Int) + 1) 101 7 = ((q + 1 + z : Nat) : Int) := by rw [am_u_ne (by decide), am_u_ne (by decide), h7]
    have p2 : am_u (am_u I 113 (3 * (36 * s + C) + z) (nu (q + 1 + z))) 112 (36 * s + C) ((z : Int) + 1) 112 (36 * s + C) = ((z + 1 : Nat) : Int) := am_u_kk
    have p3 : ∀ y : Nat, y < z + 1 → am_u (am_u I 113 (3 * (36 * s + C) + z) (nu (q + 1 + z))) 112 (36 * s + C) ((z : Int) + 1) 113 (3 * (36 * s + C) + y) = nu (q + 1 + y) := by
      intro y hy
      rw [am_u_ne (by decide)]
      by_cases e : y = z
      · subst e; exact am_u_kk
      · rw [am_u_kn (by omega)]; exact h113 y (by omega)
    generalize am_u (am_u I 113 (3 * (36 * s + C) + z) (nu (q + 1 + z))) 112 (36 * s + C) ((z : Int) + 1) = I2 at f2 p1 p2 p3 ⊢
    have hT2 : mt_T I2 J kd pl nu nm c := ⟨fun k hk => by rw [f2 104 k (by omega) (by omega) (by omega), f2 103 k (by omega) (by omega) (by omega)]; exact hT.1 k hk, hT.2⟩
    have ea : arf (lx g N) pl nu (q + 1 + z) (u + 1) = (if lx g N (nu (q + 1 + z)) = -1 then some (pl (q + 1 + z)) else arf (lx g N) pl nu (q + 1 + z + 1) u) := rfl
    refine m_mtype (g := g) (nw := nw) (N := N) hB hs hT2 p1 (by omega) ((f2 101 8 (by omega) (by omega) (by omega)).trans h8) kz (fun l hl => (f2 _ _ (by omega) (by omega) (by omega)).trans (hL l hl)) hn (fun hne => ⟨rfl, s_M_meaningOfCons_180 ?_⟩) (fun heq I3 hb => ⟨rfl, s_M_meaningOfCons_180 (s_M_meaningOfCons_120 ⟨(am_kk hB rfl), am_nm_k hb.2.1 ?_⟩)⟩)
    · rw [if_neg hne] at ea
      refine ih (z + 1) _ (by omega) (fun x j a1 a2 a3 => (am_u_off (by omega)).trans (f2 x j a1 a2 a3)) h8 am_u_kk ((am_u_ne (by decide)).trans p2) (fun y hy => (am_u_ne (by decide)).trans (p3 y hy)) (he.trans ea)
    · rw [if_pos heq] at ea
      rintro _ rfl _ _
      refine ⟨fun _ => am_WP.forget (mc_dead (v := .inl 0) hB hb.2.1 hb.2.2.2 ?_) _ (am_le_eq (am_le_eq (am_le_eq (am_le_o am_le_nil)))), fun h => absurd h (by decide)⟩
      rw [am_u_self]
      refine bad _ (he.trans ea) I3 (mm_bt ⟨fun x j h => f2 x j (fun e => h ?_) (fun e => h ?_) (fun e => h ?_), fun _ _ _ => rfl⟩ hb)
      · rw [e.1, e.2]; exact mm_101 (Or.inl rfl)
      · rw [e.1, e.2]; exact mm_tb ⟨by decide, by decide⟩ (by show 36 * s ≤ _; omega) (by show _ < 36 * s + 36; omega)
      · rw [e.1]; exact mm_tb ⟨by decide, by decide⟩ (by show 108 * s ≤ j; omega) (by show j < 108 * s + 108; omega)
end MC
