def am_ab1 (I : Nat → Nat → Int) (len b : Int) : Nat → Nat → Int := am_u (am_u I 14 len.toNat b) 13 1 (len + 1)
theorem am_ab1_len {I : Nat → Nat → Int} {len b : Int} : am_ab1 I len b 13 1 = len + 1 := by simp [am_ab1, am_u]
theorem am_ab1_14 {I : Nat → Nat → Int} {len b : Int} {j : Nat} : am_ab1 I len b 14 j = if j = len.toNat then b else I 14 j := by simp [am_ab1, am_u]
theorem am_ab1_o {I : Nat → Nat → Int} {len b : Int} {a j : Nat} (h1 : ¬ (a = 13 ∧ j = 1)) (h2 : a ≠ 14) : am_ab1 I len b a j = I a j := by
  simp only [am_ab1, am_u]
  split
  · rename_i e
    split
    · rename_i e2; exact absurd ⟨e, e2⟩ h1
    · rfl
  · rfl
theorem c_ab_step {d n : Nat} {K : Nat → am_K} {I J : Nat → Nat → Int} {R : Nat → Nat → Option Nat} {Q : am_Q} {v sh len : Int} (hB : am_B K R) (hl : I 13 1 = len) (h0 : 0 ≤ len) (h1 : len < 1200) (hs : 0 ≤ sh) (hs2 : sh ≤ 24)
    (next : am_WP d (139, 3, [.inr (.inl 13), .inl v, .inl (sh - 8)], [], (0, 0), n, K, am_ab1 I len (am_and (am_ush v sh) 255), J, R) Q) : am_WP d (139, 3, [.inr (.inl 13), .inl v, .inl sh], [], (0, 0), n, K, I, J, R) Q := by
  refine s_Tokens_addBytes_3 ⟨fun h => absurd h (by omega), fun _ => ⟨k_13 hB, fun z1 hz1 _ _ => ⟨fun h => absurd h (by omega), fun _ => ⟨k_13 hB, 14, r_13_0 hB, k_13 hB, fun z3 hz3 _ _ z4 hz4 _ _ z5 hz5 _ _ => ⟨1200, by decide, k_14 hB, ⟨by omega, by omega⟩, k_13 hB, fun z7 hz7 _ _ z8 q8 hz8 _ _ => ⟨⟨by decide, k_13 hB⟩, fun z9 q9 hz9 _ _ => ?_⟩⟩⟩⟩⟩⟩
  have e3 : z3 = len := by omega
  have e7 : z7 = len := by
    rw [hz7, ← hl]; simp [am_u]
  have e8 : z8 = len + 1 := by omega
  have e9 : z9 = sh - 8 := by omega
  rw [e9, e8, e3, hz5, hz4]
  exact next
def am_ab (I : Nat → Nat → Int) (len v : Int) : Nat → Nat → Int := am_ab1 (am_ab1 (am_ab1 (am_ab1 I len (am_and (am_ush v 24) 255)) (len + 1) (am_and (am_ush v (24 - 8)) 255)) (len + 1 + 1) (am_and (am_ush v (24 - 8 - 8)) 255)) (len + 1 + 1 + 1) (am_and (am_ush v (24 - 8 - 8 - 8)) 255)
theorem c_addBytes {d n : Nat} {K : Nat → am_K} {I J : Nat → Nat → Int} {R : Nat → Nat → Option Nat} {Q : am_Q} {v len : Int} (hB : am_B K R) (hl : I 13 1 = len) (h0 : 0 ≤ len) (h1 : len + 4 ≤ 1200) (post : Q none (n, K, am_ab I len v, J, R)) : am_WP d (am_entry 139 [.inr (.inl 13), .inl v] (n, K, I, J, R)) Q :=
  e_Tokens_addBytes (c_ab_step hB hl h0 (by omega) (by decide) (by decide) (c_ab_step hB am_ab1_len (by omega) (by omega) (by decide) (by decide) (c_ab_step hB am_ab1_len (by omega) (by omega) (by decide) (by decide) (c_ab_step hB am_ab1_len (by omega) (by omega) (by decide) (by decide) (s_Tokens_addBytes_3 ⟨fun _ => post, fun h => absurd h (by decide)⟩)))))
theorem am_ab_len {I : Nat → Nat → Int} {len v : Int} : am_ab I len v 13 1 = len + 4 := by
  unfold am_ab
  rw [am_ab1_len]
  omega
theorem am_ab_o {I : Nat → Nat → Int} {len v : Int} {a j : Nat} (h1 : ¬ (a = 13 ∧ j = 1)) (h2 : a ≠ 14) : am_ab I len v a j = I a j := by
  unfold am_ab
  rw [am_ab1_o h1 h2, am_ab1_o h1 h2, am_ab1_o h1 h2, am_ab1_o h1 h2]
theorem am_ab_inv {I I0 : Nat → Nat → Int} {len v : Int} {f : Nat → Int} {w : Nat} (h0 : 0 ≤ len) (hl : I 13 1 = len + 4 * (w : Int)) (ho : ∀ j : Nat, (j : Int) < len → I 14 j = I0 14 j) (hb : ∀ i : Nat, i < 4 * w → I 14 (len.toNat + i) = f i) (hv : ∀ k : Nat, k < 4 → f (4 * w + k) = am_and (am_ush v (24 - 8 * (k : Int))) 255) :
    am_ab I (len + 4 * (w : Int)) v 13 1 = len + 4 * ((w + 1 : Nat) : Int) ∧ (∀ j : Nat, (j : Int) < len → am_ab I (len + 4 * (w : Int)) v 14 j = I0 14 j) ∧ ∀ i : Nat, i < 4 * (w + 1) → am_ab I (len + 4 * (w : Int)) v 14 (len.toNat + i) = f i := by
  refine ⟨?_, fun j hj => ?_, fun i hi => ?_⟩
  · rw [am_ab_len]; omega
  · unfold am_ab
    rw [am_ab1_14, if_neg (by omega), am_ab1_14, if_neg (by omega), am_ab1_14, if_neg (by omega), am_ab1_14, if_neg (by omega)]
    exact ho j hj
  · unfold am_ab
    rw [am_ab1_14, am_ab1_14, am_ab1_14, am_ab1_14]
    by_cases c3 : i = 4 * w + 3
    · rw [if_pos (by omega), c3, hv 3 (by decide)]; rfl
    · rw [if_neg (by omega)]
      by_cases c2 : i = 4 * w + 2
      · rw [if_pos (by omega), c2, hv 2 (by decide)]; rfl
      · rw [if_neg (by omega)]
        by_cases c1 : i = 4 * w + 1
        · rw [if_pos (by omega), c1, hv 1 (by decide)]; rfl
        · rw [if_neg (by omega)]
          by_cases c0 : i = 4 * w + 0
          · rw [if_pos (by omega), c0, hv 0 (by decide)]; rfl
          · rw [if_neg (by omega)]
            exact hb i (by omega)
/-- which of the five -/
def am_arg (a b c d e : Int) (w : Nat) : Int := am_nth e [a, b, c, d] w
def am_xb (a b c d e : Int) (i : Nat) : Int := am_and (am_ush (am_arg a b c d e (i / 4)) (24 - 8 * ((i % 4 : Nat) : Int))) 255
def am_mb (a b c d e : Int) (i : Nat) : Int := am_i2b (am_shr (am_arg a b c d e (i / 4)) (24 - 8 * ((i % 4 : Nat) : Int)))
theorem am_xm {a b c d e : Int} {i : Nat} : am_xb a b c d e i = am_mb a b c d e i % 256 := by
  have h : i % 4 < 4 := Nat.mod_lt _ (by decide)
  exact am_byt (by omega)
theorem am_xb4 {a b c d e v : Int} {w : Nat} (h : am_arg a b c d e w = v) : ∀ k : Nat, k < 4 → am_xb a b c d e (4 * w + k) = am_and (am_ush v (24 - 8 * (k : Int))) 255 := by
  intro k hk
  unfold am_xb
  rw [show (4 * w + k) / 4 = w by omega, show (4 * w + k) % 4 = k by omega, h]
theorem m_feed_loop {d n : Nat} {K : Nat → am_K} {J : Nat → Nat → Int} {R : Nat → Nat → Option Nat} {Q : am_Q} {a b c d' e len : Int} (hB : am_B K R) (h0 : 0 ≤ len) (h1 : len + 20 ≤ 1200) : ∀ (m k : Nat) (I : Nat → Nat → Int), k + m = 20 → I 101 1 = len + (k : Int) →
    (∀ I' : Nat → Nat → Int, (∀ a j : Nat, a ≠ 102 → ¬ (a = 101 ∧ j = 1) → I' a j = I a j) → I' 101 1 = len + 20 → (∀ j : Nat, (j : Int) < len + (k : Int) → I' 102 j = I 102 j) → (∀ i : Nat, k ≤ i → i < 20 → I' 102 (len.toNat + i) = am_mb a b c d' e i) → Q (some (.inl (len + 20))) (n, K, I', J, R)) →
    am_WP d (49, 18, [.inr (.inl 101), .inl a, .inl b, .inl c, .inl d', .inl e, .inl (k : Int), am_o, am_o], [], (0, 0), n, K, I, J, R) Q := by
  intro m
  induction m with
  | zero =>
    intro k I hk hl post
    refine s_M_feed_18 ⟨fun _ => ⟨k_101 hB, fun z1 hz1 _ _ => ?_⟩, fun h => absurd h (by omega)⟩
    have ez : z1 = len + 20 := by omega
    rw [ez]
    exact post I (fun _ _ _ _ => rfl) (by omega) (fun _ _ => rfl) (fun i h2 h3 => by omega)
  | succ m ih =>
    intro k I hk hl post
    have step : ∀ y z2 : Int, y = am_arg a b c d' e (k / 4) → am_WP d (49, 73, [.inr (.inl 101), .inl a, .inl b, .inl c, .inl d', .inl e, .inl (k : Int), .inl z2, am_o], [.inl y], (0, 0), n, K, I, J, R) Q := by
      intro y z2 hy
      refine s_M_feed_73 ⟨k_101 hB, 102, r_101_0 hB, k_101 hB, fun zs hzs _ _ => ⟨by decide, fun z3 hz3 _ _ z4 q4 hz4 _ _ z5 q5 hz5 _ _ z6 hz6 _ _ z7 hz7 _ _ => ⟨1200, by decide, Or.inr ⟨k_102 hB, by rw [hz7]; exact am_i2b_rg z6⟩, ⟨by omega, by omega⟩, k_101 hB, fun z9 hz9 _ _ z10 q10 hz10 _ _ => ⟨⟨by decide, k_101 hB⟩, fun z11 q11 hz11 _ _ => ?_⟩⟩⟩⟩
      have e3 : z3 = ((k % 4 : Nat) : Int) := by rw [hz3, am_rem_e ⟨by omega, by omega⟩ ⟨by decide, by decide⟩]; omega
      have e5 : z5 = 24 - 8 * ((k % 4 : Nat) : Int) := by omega
      have e7 : z7 = am_mb a b c d' e k := by rw [hz7, hz6, e5, hy]; rfl
      have es : zs = len + (k : Int) := by omega
      have e9 : z9 = len + (k : Int) := by rw [hz9, ← hl]; simp [am_u]
      have e10 : z10 = len + ((k + 1 : Nat) : Int) := by omega
      have e11 : z11 = ((k + 1 : Nat) : Int) := by omega
      rw [e11, e10, e7, es]
      have est : (len + (k : Int)).toNat = len.toNat + k := by omega
      refine am_WP.forget (ih (k + 1) (am_u (am_u I 102 (len + (k : Int)).toNat (am_mb a b c d' e k)) 101 1 (len + ((k + 1 : Nat) : Int))) (by omega) (by simp [am_u]) ?_) _ (am_le_eq (am_le_eq (am_le_eq (am_le_eq (am_le_eq (am_le_eq (am_le_eq (am_le_o (am_le_o am_le_nil)))))))))
      intro I' g1 g2 g3 g4
      refine post I' (fun a j h2 h3 => ?_) g2 (fun j hj => ?_) (fun i h2 h3 => ?_)
      · rw [g1 a j h2 h3]
        simp only [am_u]
        split
        · rename_i ea
          split
          · rename_i ej; exact absurd ⟨ea, ej⟩ h3
          · rfl
        · rfl
      · rw [g3 j (by omega)]
        simp only [am_u]
        rw [if_neg (by decide), if_pos trivial, if_neg (by omega)]
      · by_cases ei : i = k
        · subst ei
          rw [g3 (len.toNat + i) (by omega)]
          simp only [am_u]
          rw [if_neg (by decide), if_pos trivial, if_pos (by omega)]
        · exact g4 i (by omega) h3
    refine s_M_feed_18 ⟨fun h => absurd h (by omega), fun _ => ⟨by decide, fun z2 hz2 _ _ => ?_⟩⟩
    have e2 : z2 = ((k / 4 : Nat) : Int) := by rw [hz2, am_div_e ⟨by omega, by omega⟩ ⟨by decide, by decide⟩]; omega
    refine ⟨fun n0 => ⟨fun n1 => ⟨fun n2 => ⟨fun n3 => step _ _ ?_, fun q => step _ _ ?_⟩, fun q => step _ _ ?_⟩, fun q => step _ _ ?_⟩, fun q => step _ _ ?_⟩
    · rw [show k / 4 = 4 by omega]; rfl
    · rw [show k / 4 = 3 by omega]; rfl
    · rw [show k / 4 = 2 by omega]; rfl
    · rw [show k / 4 = 1 by omega]; rfl
    · rw [show k / 4 = 0 by omega]; rfl
section FEED2
variable {Rs : (Nat → Nat → Int) → (Nat → Nat → Int) → Nat → Nat → Prop} {L : Nat} {xs : Nat → Int}
theorem ok_feed (hRs : am_hRs Rs) (a b c d e : Int) (_ : -2147483648 ≤ a ∧ a ≤ 2147483647) (_ : -2147483648 ≤ b ∧ b ≤ 2147483647) (_ : -2147483648 ≤ c ∧ c ≤ 2147483647) (_ : -2147483648 ≤ d ∧ d ≤ 2147483647) (_ : -2147483648 ≤ e ∧ e ≤ 2147483647) : am_ok L xs (am_Iv Rs L xs) 5 49 [.inl a, .inl b, .inl c, .inl d, .inl e] := by
  rintro ⟨n, K, I, J, R⟩ ⟨⟨hB, hK0, hI0⟩, ⟨t0, t1, t2, t3⟩, hp, hS⟩
  have t0 : 0 ≤ I 13 1 := t0
  have t1 : I 13 1 ≤ 1200 := t1
  have t2 : I 101 1 = I 13 1 := t2
  have t3 : ∀ j : Nat, (j : Int) < I 13 1 → I 14 j = I 102 j % 256 := t3
  have hI0 : ∀ a j : Nat, a < 11 → I a j = am_Zi xs a j := hI0
  have hIv : am_Iv Rs L xs (n, K, I, J, R) := ⟨⟨hB, hK0, hI0⟩, ⟨t0, t1, t2, t3⟩, hp, hS⟩
  refine e_X_feed ⟨k_11 hB, 12, r_11_0 hB, k_12 hB, 13, r_12_0 hB, k_13 hB, fun z3 hz3 _ _ z4 q4 hz4 _ _ => ⟨fun hle => ⟨k_13 hB, ?_⟩, fun hgt => ⟨-1, rfl, ⟨hB, hK0, hI0⟩, e_M_feed ⟨k_101 hB, fun y1 hy1 _ _ y2 p2 hy2 _ _ => ⟨fun h => absurd h (by omega), fun _ => ⟨rfl, hIv⟩⟩⟩⟩⟩⟩
  generalize hlen : I 13 1 = len at t0 t1 t2 t3 hz3
  have i1 := am_ab_inv (I := I) (I0 := I) (len := len) (v := a) (f := am_xb a b c d e) (w := 0) t0 (by omega) (fun _ _ => rfl) (fun i hi => by omega) (am_xb4 rfl)
  obtain ⟨i1l, i1o, i1b⟩ := i1
  have i2 := am_ab_inv (I0 := I) (v := b) (f := am_xb a b c d e) (w := 1) t0 i1l i1o i1b (am_xb4 rfl)
  obtain ⟨i2l, i2o, i2b⟩ := i2
  have i3 := am_ab_inv (I0 := I) (v := c) (f := am_xb a b c d e) (w := 2) t0 i2l i2o i2b (am_xb4 rfl)
  obtain ⟨i3l, i3o, i3b⟩ := i3
  have i4 := am_ab_inv (I0 := I) (v := d) (f := am_xb a b c d e) (w := 3) t0 i3l i3o i3b (am_xb4 rfl)
  obtain ⟨i4l, i4o, i4b⟩ := i4
  have i5 := am_ab_inv (I0 := I) (v := e) (f := am_xb a b c d e) (w := 4) t0 i4l i4o i4b (am_xb4 rfl)
  obtain ⟨i5l, i5o, i5b⟩ := i5
  refine c_addBytes (len := len + 4 * ((0 : Nat) : Int)) hB (by omega) (by omega) (by omega) ⟨rfl, s_X_feed_31 ⟨k_13 hB, c_addBytes (len := len + 4 * ((1 : Nat) : Int)) hB i1l (by omega) (by omega) ⟨rfl, s_X_feed_37 ⟨k_13 hB, c_addBytes (len := len + 4 * ((2 : Nat) : Int)) hB i2l (by omega) (by omega) ⟨rfl, s_X_feed_43 ⟨k_13 hB, c_addBytes (len := len + 4 * ((3 : Nat) : Int)) hB i3l (by omega) (by omega) ⟨rfl, s_X_feed_50 ⟨k_13 hB, c_addBytes (len := len + 4 * ((4 : Nat) : Int)) hB i4l (by omega) (by omega) ⟨rfl, s_X_feed_57 ⟨k_13 hB, fun z hz _ _ => ?_⟩⟩⟩⟩⟩⟩⟩⟩⟩⟩
  have ez : z = len + 20 := by
    rw [hz]
    exact i5l.trans (by omega)
  subst ez
  have fo : ∀ a' j : Nat, ¬ (a' = 13 ∧ j = 1) → a' ≠ 14 → am_ab (am_ab (am_ab (am_ab (am_ab I (len + 4 * ((0 : Nat) : Int)) a) (len + 4 * ((1 : Nat) : Int)) b) (len + 4 * ((2 : Nat) : Int)) c) (len + 4 * ((3 : Nat) : Int)) d) (len + 4 * ((4 : Nat) : Int)) e a' j = I a' j := by
    intro a' j g1 g2
    rw [am_ab_o g1 g2, am_ab_o g1 g2, am_ab_o g1 g2, am_ab_o g1 g2, am_ab_o g1 g2]
  generalize am_ab (am_ab (am_ab (am_ab (am_ab I (len + 4 * ((0 : Nat) : Int)) a) (len + 4 * ((1 : Nat) : Int)) b) (len + 4 * ((2 : Nat) : Int)) c) (len + 4 * ((3 : Nat) : Int)) d) (len + 4 * ((4 : Nat) : Int)) e = I5 at i5l i5o i5b fo ⊢
  refine ⟨_, rfl, ⟨hB, hK0, fun a' j ha => (fo a' j (by omega) (by omega)).trans (hI0 a' j ha)⟩, e_M_feed ⟨k_101 hB, fun y1 hy1 _ _ y2 p2 hy2 _ _ => ⟨fun _ => ?_, fun h => ?_⟩⟩⟩
  · refine m_feed_loop (len := len) hB t0 (by omega) 20 0 I5 rfl ?_ ?_
    · rw [fo 101 1 (by omega) (by omega)]; omega
    · intro I' g1 g2 g3 g4
      refine ⟨rfl, am_Iv_fr hRs hIv (fun a' j f1 f2 f3 f4 => ?_) ⟨?_, ?_, ?_, fun j hj => ?_⟩⟩
      · rw [g1 a' j f4 f3, fo a' j f1 f2]
      · rw [g1 13 1 (by omega) (by omega)]; omega
      · rw [g1 13 1 (by omega) (by omega)]; omega
      · rw [g1 13 1 (by omega) (by omega)]; omega
      · rw [g1 13 1 (by omega) (by omega)] at hj
        rw [g1 14 j (by omega) (by omega)]
        by_cases hjl : (j : Int) < len
        · rw [i5o j hjl, g3 j (by omega), fo 102 j (by omega) (by omega), t3 j hjl]
        · have ej : j = len.toNat + (j - len.toNat) := by omega
          rw [ej, i5b (j - len.toNat) (by omega), g4 (j - len.toNat) (by omega) (by omega)]
          exact am_xm
  · have h101 := fo 101 1 (by omega) (by omega)
    omega
end FEED2
